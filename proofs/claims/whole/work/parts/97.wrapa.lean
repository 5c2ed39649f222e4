/-! InflectionGuesserLaw.append(LInflectionGuesser;C[J)I -/
set_option maxRecDepth 20000 in
theorem ggL_append_X6_append : GoodIn wsL_append wsX6_append := goodIn_ca (goodIn_ca (goodIn_r _ [7, 8, 9, 10, 11, 12, 13, 14, 15, 16, 17, 18, 19, 20, 21, 22, 23, 24, 25, 26, 27, 28, 29] (by decide +kernel) (by decide +kernel)) (goodIn_sub (fun _ h => List.mem_cons_of_mem _ (List.mem_append_left _ (List.mem_append_right _ h))) (by decide +kernel))) (goodIn_sub (fun _ h => List.mem_cons_of_mem _ (List.mem_append_right _ h)) (by decide +kernel))
set_option maxRecDepth 20000 in
theorem gL_append_X6_append : GoodIn wsL_append (wsV RL 7 RX6 yX6_append wsX6_append) := goodIn_app (goodIn_of _ (by decide +kernel)) ggL_append_X6_append
theorem dL_append_0 : decode cL_append 0 = .ok (.aload_n 2, 1) := by decide +kernel
theorem dL_append_1 : decode cL_append 1 = .ok (.iconst 0, 1) := by decide +kernel
theorem dL_append_2 : decode cL_append 2 = .ok (.aload_n 0, 1) := by decide +kernel
theorem dL_append_3 : decode cL_append 3 = .ok (.iload_n 1, 1) := by decide +kernel
theorem dL_append_4 : decode cL_append 4 = .ok (.invokevirtual 7, 3) := by decide +kernel
theorem dL_append_7 : decode cL_append 7 = .ok (.i2l, 1) := by decide +kernel
theorem dL_append_8 : decode cL_append 8 = .ok (.lastore, 1) := by decide +kernel
theorem dL_append_9 : decode cL_append 9 = .ok (.goto 9, 3) := by decide +kernel
theorem dL_append_12 : decode cL_append 12 = .ok (.astore_n 3, 1) := by decide +kernel
theorem dL_append_13 : decode cL_append 13 = .ok (.iconst 1, 1) := by decide +kernel
theorem dL_append_14 : decode cL_append 14 = .ok (.ireturn, 1) := by decide +kernel
theorem dL_append_15 : decode cL_append 15 = .ok (.astore_n 3, 1) := by decide +kernel
theorem dL_append_16 : decode cL_append 16 = .ok (.iconst 2, 1) := by decide +kernel
theorem dL_append_17 : decode cL_append 17 = .ok (.ireturn, 1) := by decide +kernel
theorem dL_append_18 : decode cL_append 18 = .ok (.iconst 0, 1) := by decide +kernel
theorem dL_append_19 : decode cL_append 19 = .ok (.ireturn, 1) := by decide +kernel
def rL_append : Room := { frames := 7, cells := 1, slots := 6, locals := 111 }
theorem lL_append_1 : Cond.classLink RL 13 (zEx 1) ∈ wsL_append := by decide +kernel
theorem lL_append_2 : Cond.classLink RL 15 (zEx 2) ∈ wsL_append := by decide +kernel
set_option maxRecDepth 100000 in
set_option maxHeartbeats 4000000 in
theorem mL_append {l : Launch} {a : Nat → Nat} {cy : Nat → ClassId} {D : va_G} {tV : Nat} {sa : Nat → Nat} (hl : l.stackTraces = false) {P : Int → Sto → Prop} {X : Nat → Sto → Prop} {σ : Sto} {k0 : Nat} {x1 : Int} {k2 : Nat} (hk0 : zk k0 = 5) (hk2 : zk k2 = 9) (hq : vL_append k0 x1 k2 P σ) : zMX l yL_append wsL_append rL_append a cy D tV sa [.ref (a k0), .int (zI x1), .ref (a k2)] σ (zPI P) X 1 6 :=
  zMXH_of (cc := cL_append) (maxL := 4) (ret := (some .int)) (hh := [(0, 9, 12, 13), (0, 9, 15, 15)]) (by decide) rfl (Nat.le_of_ble_eq_true rfl) (L0 := [(0, .ref (a k0)), (1, .int (zI x1)), (2, .ref (a k2))]) rfl (fun p e s m args below meth c C hr ht => by
  unfold vL_append at hq
  refine zr_aload_n C dL_append_0 rfl (k := 2) rfl rfl ?_
  refine zr_iconst C dL_append_1 rfl ?_
  refine zr_aload_n C dL_append_2 rfl (k := 0) rfl rfl ?_
  refine zr_iload_n C dL_append_3 rfl (k := 1) rfl rfl ?_
  refine zr_xcall (zrunVX C (st := [.int (zI 0), .ref (a k2)]) (mX6_append hl hk0 hq) (cwV 1 C.2.2.2.2.1 gL_append_X6_append rfl rfl rfl (by decide +kernel) ⟨Nat.le_of_ble_eq_true rfl, Nat.le_of_ble_eq_true rfl⟩) (zE_5 hk0) (zk_lt hk0 (by decide)) (T := TX6) (N := 8) rfl rfl rfl (Nat.le_of_ble_eq_true rfl) dL_append_4 ⟨(Nat.le_of_ble_eq_true rfl), (Nat.le_of_ble_eq_true rfl)⟩) rfl (fun i s9 H1 locs1 ls ce q9 hi hx hO hP hS hL h1 h2 h3 => ?_) (fun v s1 hv => ?_)
  · rcases (show i = 0 ∨ i = 1 ∨ i = 2 ∨ i = 3 by omega) with rfl | rfl | rfl | rfl
    · exact (hx.1 rfl).elim
    · have hq := hx.2.1 rfl
      refine zr_catch C ht [] ⟨0, 9, 12, 13⟩ [⟨0, 9, 15, 15⟩] rfl 1 (by decide) (fun _ h => nomatch h) rfl (by decide) lL_append_1 h1 h2 h3 ?_
      refine (?_ : zX p l e rL_append s m args below meth c 4 a cy D (vx_MQ below (fun _ => zQo a cy D s.heap.size (zPI P)) (zXC a cy D s.heap.size X) args s 1 6 (zA a s.heap.size)) 1 6 s9 12 [(0, .ref (a k0)), (1, .int (zI x1)), (2, .ref (a k2))] [.ref q9]) H1 locs1 ls hO hP hS hL
      refine zr_astore_n C (L' := [(3, .ref q9), (0, .ref (a k0)), (1, .int (zI x1)), (2, .ref (a k2))]) dL_append_12 rfl (by decide) rfl rfl ?_
      refine zr_iconst C dL_append_13 rfl ?_
      exact zr_widen (Nat.le_of_ble_eq_true rfl) (Nat.le_of_ble_eq_true rfl) (zr_vx (zr_iret C hr dL_append_14 ⟨_, rfl, hq⟩))
    · have hq := hx.2.2.1 rfl
      refine zr_catch C ht [⟨0, 9, 12, 13⟩] ⟨0, 9, 15, 15⟩ [] rfl 2 (by decide) (List.forall_mem_cons.mpr ⟨⟨by decide, 1, by decide, by decide, lL_append_1⟩, (fun _ h => nomatch h)⟩) rfl (by decide) lL_append_2 h1 h2 h3 ?_
      refine (?_ : zX p l e rL_append s m args below meth c 4 a cy D (vx_MQ below (fun _ => zQo a cy D s.heap.size (zPI P)) (zXC a cy D s.heap.size X) args s 1 6 (zA a s.heap.size)) 1 6 s9 15 [(0, .ref (a k0)), (1, .int (zI x1)), (2, .ref (a k2))] [.ref q9]) H1 locs1 ls hO hP hS hL
      refine zr_astore_n C (L' := [(3, .ref q9), (0, .ref (a k0)), (1, .int (zI x1)), (2, .ref (a k2))]) dL_append_15 rfl (by decide) rfl rfl ?_
      refine zr_iconst C dL_append_16 rfl ?_
      exact zr_widen (Nat.le_of_ble_eq_true rfl) (Nat.le_of_ble_eq_true rfl) (zr_vx (zr_iret C hr dL_append_17 ⟨_, rfl, hq⟩))
    · exact (hx.2.2.2 rfl).elim
  · obtain ⟨r1, rfl, hq⟩ := hv
    obtain ⟨h0, hq⟩ := hq
    refine zr_i2l C dL_append_7 h0 rfl ?_
    obtain ⟨h0, hq⟩ := hq
    refine zr_last C hk2 (by decide) h0 dL_append_8 rfl (fun s2 es2 => ?_)
    have hq := hq s2 es2
    refine zr_goto C (tgt := 18) dL_append_9 (by decide) ?_
    refine zr_iconst C dL_append_18 rfl ?_
    exact zr_widen (Nat.le_of_ble_eq_true rfl) (Nat.le_of_ble_eq_true rfl) (zr_vx (zr_iret C hr dL_append_19 ⟨_, rfl, hq⟩)))
/-! InflectionGuesserLaw.inputLetter(LInflectionGuesser;I[J)I -/
set_option maxRecDepth 20000 in
theorem ggL_inputLetter_X6_inputLetter : GoodIn wsL_inputLetter wsX6_inputLetter := goodIn_ca (goodIn_r _ [6, 7, 8, 9, 10, 11, 12, 13, 14, 15, 16, 17, 18, 19] (by decide +kernel) (by decide +kernel)) (goodIn_sub (fun _ h => List.mem_cons_of_mem _ (List.mem_append_right _ h)) (by decide +kernel))
set_option maxRecDepth 20000 in
theorem gL_inputLetter_X6_inputLetter : GoodIn wsL_inputLetter (wsV RL 17 RX6 yX6_inputLetter wsX6_inputLetter) := goodIn_app (goodIn_of _ (by decide +kernel)) ggL_inputLetter_X6_inputLetter
theorem dL_inputLetter_0 : decode cL_inputLetter 0 = .ok (.aload_n 2, 1) := by decide +kernel
theorem dL_inputLetter_1 : decode cL_inputLetter 1 = .ok (.iconst 0, 1) := by decide +kernel
theorem dL_inputLetter_2 : decode cL_inputLetter 2 = .ok (.aload_n 0, 1) := by decide +kernel
theorem dL_inputLetter_3 : decode cL_inputLetter 3 = .ok (.iload_n 1, 1) := by decide +kernel
theorem dL_inputLetter_4 : decode cL_inputLetter 4 = .ok (.invokevirtual 17, 3) := by decide +kernel
theorem dL_inputLetter_7 : decode cL_inputLetter 7 = .ok (.i2l, 1) := by decide +kernel
theorem dL_inputLetter_8 : decode cL_inputLetter 8 = .ok (.lastore, 1) := by decide +kernel
theorem dL_inputLetter_9 : decode cL_inputLetter 9 = .ok (.goto 6, 3) := by decide +kernel
theorem dL_inputLetter_12 : decode cL_inputLetter 12 = .ok (.astore_n 3, 1) := by decide +kernel
theorem dL_inputLetter_13 : decode cL_inputLetter 13 = .ok (.iconst 1, 1) := by decide +kernel
theorem dL_inputLetter_14 : decode cL_inputLetter 14 = .ok (.ireturn, 1) := by decide +kernel
theorem dL_inputLetter_15 : decode cL_inputLetter 15 = .ok (.iconst 0, 1) := by decide +kernel
theorem dL_inputLetter_16 : decode cL_inputLetter 16 = .ok (.ireturn, 1) := by decide +kernel
def rL_inputLetter : Room := { frames := 7, cells := 1, slots := 6, locals := 111 }
theorem lL_inputLetter_0 : Cond.classLink RL 21 (zEx 0) ∈ wsL_inputLetter := by decide +kernel
set_option maxRecDepth 100000 in
set_option maxHeartbeats 4000000 in
theorem mL_inputLetter {l : Launch} {a : Nat → Nat} {cy : Nat → ClassId} {D : va_G} {tV : Nat} {sa : Nat → Nat} (hl : l.stackTraces = false) {P : Int → Sto → Prop} {X : Nat → Sto → Prop} {σ : Sto} {k0 : Nat} {x1 : Int} {k2 : Nat} (hk0 : zk k0 = 5) (hk2 : zk k2 = 9) (hq : vL_inputLetter k0 x1 k2 P σ) : zMX l yL_inputLetter wsL_inputLetter rL_inputLetter a cy D tV sa [.ref (a k0), .int (zI x1), .ref (a k2)] σ (zPI P) X 1 6 :=
  zMXH_of (cc := cL_inputLetter) (maxL := 4) (ret := (some .int)) (hh := [(0, 9, 12, 21)]) (by decide) rfl (Nat.le_of_ble_eq_true rfl) (L0 := [(0, .ref (a k0)), (1, .int (zI x1)), (2, .ref (a k2))]) rfl (fun p e s m args below meth c C hr ht => by
  unfold vL_inputLetter at hq
  refine zr_aload_n C dL_inputLetter_0 rfl (k := 2) rfl rfl ?_
  refine zr_iconst C dL_inputLetter_1 rfl ?_
  refine zr_aload_n C dL_inputLetter_2 rfl (k := 0) rfl rfl ?_
  refine zr_iload_n C dL_inputLetter_3 rfl (k := 1) rfl rfl ?_
  refine zr_xcall (zrunVX C (st := [.int (zI 0), .ref (a k2)]) (mX6_inputLetter hl hk0 hq) (cwV 1 C.2.2.2.2.1 gL_inputLetter_X6_inputLetter rfl rfl rfl (by decide +kernel) ⟨Nat.le_of_ble_eq_true rfl, Nat.le_of_ble_eq_true rfl⟩) (zE_5 hk0) (zk_lt hk0 (by decide)) (T := TX6) (N := 8) rfl rfl rfl (Nat.le_of_ble_eq_true rfl) dL_inputLetter_4 ⟨(Nat.le_of_ble_eq_true rfl), (Nat.le_of_ble_eq_true rfl)⟩) rfl (fun i s9 H1 locs1 ls ce q9 hi hx hO hP hS hL h1 h2 h3 => ?_) (fun v s1 hv => ?_)
  · rcases (show i = 0 ∨ i = 1 ∨ i = 2 ∨ i = 3 by omega) with rfl | rfl | rfl | rfl
    · have hq := hx.1 rfl
      refine zr_catch C ht [] ⟨0, 9, 12, 21⟩ [] rfl 0 (by decide) (fun _ h => nomatch h) rfl (by decide) lL_inputLetter_0 h1 h2 h3 ?_
      refine (?_ : zX p l e rL_inputLetter s m args below meth c 4 a cy D (vx_MQ below (fun _ => zQo a cy D s.heap.size (zPI P)) (zXC a cy D s.heap.size X) args s 1 6 (zA a s.heap.size)) 1 6 s9 12 [(0, .ref (a k0)), (1, .int (zI x1)), (2, .ref (a k2))] [.ref q9]) H1 locs1 ls hO hP hS hL
      refine zr_astore_n C (L' := [(3, .ref q9), (0, .ref (a k0)), (1, .int (zI x1)), (2, .ref (a k2))]) dL_inputLetter_12 rfl (by decide) rfl rfl ?_
      refine zr_iconst C dL_inputLetter_13 rfl ?_
      exact zr_widen (Nat.le_of_ble_eq_true rfl) (Nat.le_of_ble_eq_true rfl) (zr_vx (zr_iret C hr dL_inputLetter_14 ⟨_, rfl, hq⟩))
    · exact (hx.2.1 rfl).elim
    · exact (hx.2.2.1 rfl).elim
    · exact (hx.2.2.2 rfl).elim
  · obtain ⟨r1, rfl, hq⟩ := hv
    obtain ⟨h0, hq⟩ := hq
    refine zr_i2l C dL_inputLetter_7 h0 rfl ?_
    obtain ⟨h0, hq⟩ := hq
    refine zr_last C hk2 (by decide) h0 dL_inputLetter_8 rfl (fun s2 es2 => ?_)
    have hq := hq s2 es2
    refine zr_goto C (tgt := 15) dL_inputLetter_9 (by decide) ?_
    refine zr_iconst C dL_inputLetter_15 rfl ?_
    exact zr_widen (Nat.le_of_ble_eq_true rfl) (Nat.le_of_ble_eq_true rfl) (zr_vx (zr_iret C hr dL_inputLetter_16 ⟨_, rfl, hq⟩)))
/-! InflectionGuesserLaw.addParadigm(LInflectionGuesser;[J)I -/
set_option maxRecDepth 20000 in
theorem ggL_addParadigm_X6_addParadigm : GoodIn wsL_addParadigm wsX6_addParadigm := goodIn_ca (goodIn_r _ [6, 7, 8, 9, 10, 11, 12, 13, 14, 15, 16, 17, 18, 19, 20, 21, 22, 23, 24, 25, 26, 27, 28, 29, 30, 31, 32, 33, 34, 35, 36, 37, 38, 39, 40, 41, 42, 43, 44, 45, 46, 47, 48, 49, 50, 51, 52, 53, 54, 55, 56, 57, 58, 59, 60, 61, 62, 63, 64, 65, 66, 67, 68, 69, 70, 71, 72, 73, 74, 75, 76, 77, 78, 79, 80, 81, 82, 83, 84, 85, 86, 87, 88, 89, 90, 91, 92, 93] (by decide +kernel) (by decide +kernel)) (goodIn_sub (fun _ h => List.mem_cons_of_mem _ (List.mem_append_right _ h)) (by decide +kernel))
set_option maxRecDepth 20000 in
theorem gL_addParadigm_X6_addParadigm : GoodIn wsL_addParadigm (wsV RL 23 RX6 yX6_addParadigm wsX6_addParadigm) := goodIn_app (goodIn_of _ (by decide +kernel)) ggL_addParadigm_X6_addParadigm
theorem dL_addParadigm_0 : decode cL_addParadigm 0 = .ok (.aload_n 1, 1) := by decide +kernel
theorem dL_addParadigm_1 : decode cL_addParadigm 1 = .ok (.iconst 0, 1) := by decide +kernel
theorem dL_addParadigm_2 : decode cL_addParadigm 2 = .ok (.aload_n 0, 1) := by decide +kernel
theorem dL_addParadigm_3 : decode cL_addParadigm 3 = .ok (.invokevirtual 23, 3) := by decide +kernel
theorem dL_addParadigm_6 : decode cL_addParadigm 6 = .ok (.i2l, 1) := by decide +kernel
theorem dL_addParadigm_7 : decode cL_addParadigm 7 = .ok (.lastore, 1) := by decide +kernel
theorem dL_addParadigm_8 : decode cL_addParadigm 8 = .ok (.goto 6, 3) := by decide +kernel
theorem dL_addParadigm_11 : decode cL_addParadigm 11 = .ok (.astore_n 2, 1) := by decide +kernel
theorem dL_addParadigm_12 : decode cL_addParadigm 12 = .ok (.iconst 1, 1) := by decide +kernel
theorem dL_addParadigm_13 : decode cL_addParadigm 13 = .ok (.ireturn, 1) := by decide +kernel
theorem dL_addParadigm_14 : decode cL_addParadigm 14 = .ok (.iconst 0, 1) := by decide +kernel
theorem dL_addParadigm_15 : decode cL_addParadigm 15 = .ok (.ireturn, 1) := by decide +kernel
def rL_addParadigm : Room := { frames := 7, cells := 1, slots := 6, locals := 123 }
theorem lL_addParadigm_2 : Cond.classLink RL 15 (zEx 2) ∈ wsL_addParadigm := by decide +kernel
set_option maxRecDepth 100000 in
set_option maxHeartbeats 4000000 in
theorem mL_addParadigm {l : Launch} {a : Nat → Nat} {cy : Nat → ClassId} {D : va_G} {tV : Nat} {sa : Nat → Nat} (hl : l.stackTraces = false) {P : Int → Sto → Prop} {X : Nat → Sto → Prop} {σ : Sto} {k0 : Nat} {k1 : Nat} (hk0 : zk k0 = 5) (hk1 : zk k1 = 9) (hq : vL_addParadigm k0 k1 P σ) : zMX l yL_addParadigm wsL_addParadigm rL_addParadigm a cy D tV sa [.ref (a k0), .ref (a k1)] σ (zPI P) X 1 6 :=
  zMXH_of (cc := cL_addParadigm) (maxL := 3) (ret := (some .int)) (hh := [(0, 8, 11, 15)]) (by decide) rfl (Nat.le_of_ble_eq_true rfl) (L0 := [(0, .ref (a k0)), (1, .ref (a k1))]) rfl (fun p e s m args below meth c C hr ht => by
  unfold vL_addParadigm at hq
  refine zr_aload_n C dL_addParadigm_0 rfl (k := 1) rfl rfl ?_
  refine zr_iconst C dL_addParadigm_1 rfl ?_
  refine zr_aload_n C dL_addParadigm_2 rfl (k := 0) rfl rfl ?_
  refine zr_xcall (zrunVX C (st := [.int (zI 0), .ref (a k1)]) (mX6_addParadigm hl hk0 hq) (cwV 0 C.2.2.2.2.1 gL_addParadigm_X6_addParadigm rfl rfl rfl (by decide +kernel) ⟨Nat.le_of_ble_eq_true rfl, Nat.le_of_ble_eq_true rfl⟩) (zE_5 hk0) (zk_lt hk0 (by decide)) (T := TX6) (N := 8) rfl rfl rfl (Nat.le_of_ble_eq_true rfl) dL_addParadigm_3 ⟨(Nat.le_of_ble_eq_true rfl), (Nat.le_of_ble_eq_true rfl)⟩) rfl (fun i s9 H1 locs1 ls ce q9 hi hx hO hP hS hL h1 h2 h3 => ?_) (fun v s1 hv => ?_)
  · rcases (show i = 0 ∨ i = 1 ∨ i = 2 ∨ i = 3 by omega) with rfl | rfl | rfl | rfl
    · exact (hx.1 rfl).elim
    · exact (hx.2.1 rfl).elim
    · have hq := hx.2.2.1 rfl
      refine zr_catch C ht [] ⟨0, 8, 11, 15⟩ [] rfl 2 (by decide) (fun _ h => nomatch h) rfl (by decide) lL_addParadigm_2 h1 h2 h3 ?_
      refine (?_ : zX p l e rL_addParadigm s m args below meth c 3 a cy D (vx_MQ below (fun _ => zQo a cy D s.heap.size (zPI P)) (zXC a cy D s.heap.size X) args s 1 6 (zA a s.heap.size)) 1 6 s9 11 [(0, .ref (a k0)), (1, .ref (a k1))] [.ref q9]) H1 locs1 ls hO hP hS hL
      refine zr_astore_n C (L' := [(2, .ref q9), (0, .ref (a k0)), (1, .ref (a k1))]) dL_addParadigm_11 rfl (by decide) rfl rfl ?_
      refine zr_iconst C dL_addParadigm_12 rfl ?_
      exact zr_widen (Nat.le_of_ble_eq_true rfl) (Nat.le_of_ble_eq_true rfl) (zr_vx (zr_iret C hr dL_addParadigm_13 ⟨_, rfl, hq⟩))
    · exact (hx.2.2.2 rfl).elim
  · obtain ⟨r1, rfl, hq⟩ := hv
    obtain ⟨h0, hq⟩ := hq
    refine zr_i2l C dL_addParadigm_6 h0 rfl ?_
    obtain ⟨h0, hq⟩ := hq
    refine zr_last C hk1 (by decide) h0 dL_addParadigm_7 rfl (fun s2 es2 => ?_)
    have hq := hq s2 es2
    refine zr_goto C (tgt := 14) dL_addParadigm_8 (by decide) ?_
    refine zr_iconst C dL_addParadigm_14 rfl ?_
    exact zr_widen (Nat.le_of_ble_eq_true rfl) (Nat.le_of_ble_eq_true rfl) (zr_vx (zr_iret C hr dL_addParadigm_15 ⟨_, rfl, hq⟩)))
/-! InflectionGuesserLaw.addCell(LInflectionGuesser;III[J)I -/
set_option maxRecDepth 20000 in
theorem ggL_addCell_X6_addCell : GoodIn wsL_addCell wsX6_addCell := goodIn_ca (goodIn_ca (goodIn_ca (goodIn_r _ [8, 9, 10, 11, 12, 13, 14, 15, 16, 17, 18, 19, 7, 20, 21, 22, 23, 24, 25, 26, 27, 28, 29, 30, 31, 32, 33, 34, 35, 36, 37, 38, 39, 40, 41, 42, 43, 44, 45, 46, 47, 48, 49, 50, 51, 52, 53, 54, 55, 56, 57, 58, 59, 60, 61, 62, 63, 64, 65, 66, 67, 68, 69, 70, 71, 72, 73, 74, 75, 76, 77, 78, 79, 80, 81, 82, 83, 84, 85, 86, 87, 88, 89, 90, 91, 92, 93, 94, 95, 96, 97, 98, 99, 100, 101, 102, 103, 104, 105, 106, 107, 108, 109, 110, 111, 112, 113, 114, 115, 116, 117, 118, 119, 120, 121, 122, 123, 124] (by decide +kernel) (by decide +kernel)) (goodIn_sub (fun _ h => List.mem_cons_of_mem _ (List.mem_append_left _ (List.mem_append_left _ (List.mem_append_right _ h)))) (by decide +kernel))) (goodIn_sub (fun _ h => List.mem_cons_of_mem _ (List.mem_append_left _ (List.mem_append_right _ h))) (by decide +kernel))) (goodIn_sub (fun _ h => List.mem_cons_of_mem _ (List.mem_append_right _ h)) (by decide +kernel))
set_option maxRecDepth 20000 in
theorem gL_addCell_X6_addCell : GoodIn wsL_addCell (wsV RL 27 RX6 yX6_addCell wsX6_addCell) := goodIn_app (goodIn_of _ (by decide +kernel)) ggL_addCell_X6_addCell
theorem dL_addCell_0 : decode cL_addCell 0 = .ok (.aload 4, 2) := by decide +kernel
theorem dL_addCell_2 : decode cL_addCell 2 = .ok (.iconst 0, 1) := by decide +kernel
theorem dL_addCell_3 : decode cL_addCell 3 = .ok (.aload_n 0, 1) := by decide +kernel
theorem dL_addCell_4 : decode cL_addCell 4 = .ok (.iload_n 1, 1) := by decide +kernel
theorem dL_addCell_5 : decode cL_addCell 5 = .ok (.iload_n 2, 1) := by decide +kernel
theorem dL_addCell_6 : decode cL_addCell 6 = .ok (.iload_n 3, 1) := by decide +kernel
theorem dL_addCell_7 : decode cL_addCell 7 = .ok (.invokevirtual 27, 3) := by decide +kernel
theorem dL_addCell_10 : decode cL_addCell 10 = .ok (.i2l, 1) := by decide +kernel
theorem dL_addCell_11 : decode cL_addCell 11 = .ok (.lastore, 1) := by decide +kernel
theorem dL_addCell_12 : decode cL_addCell 12 = .ok (.goto 15, 3) := by decide +kernel
theorem dL_addCell_15 : decode cL_addCell 15 = .ok (.astore 5, 2) := by decide +kernel
theorem dL_addCell_17 : decode cL_addCell 17 = .ok (.iconst 1, 1) := by decide +kernel
theorem dL_addCell_18 : decode cL_addCell 18 = .ok (.ireturn, 1) := by decide +kernel
theorem dL_addCell_19 : decode cL_addCell 19 = .ok (.astore 5, 2) := by decide +kernel
theorem dL_addCell_21 : decode cL_addCell 21 = .ok (.iconst 2, 1) := by decide +kernel
theorem dL_addCell_22 : decode cL_addCell 22 = .ok (.ireturn, 1) := by decide +kernel
theorem dL_addCell_23 : decode cL_addCell 23 = .ok (.astore 5, 2) := by decide +kernel
theorem dL_addCell_25 : decode cL_addCell 25 = .ok (.iconst 3, 1) := by decide +kernel
theorem dL_addCell_26 : decode cL_addCell 26 = .ok (.ireturn, 1) := by decide +kernel
theorem dL_addCell_27 : decode cL_addCell 27 = .ok (.iconst 0, 1) := by decide +kernel
theorem dL_addCell_28 : decode cL_addCell 28 = .ok (.ireturn, 1) := by decide +kernel
def rL_addCell : Room := { frames := 8, cells := 2, slots := 12, locals := 137 }
theorem lL_addCell_0 : Cond.classLink RL 21 (zEx 0) ∈ wsL_addCell := by decide +kernel
theorem lL_addCell_1 : Cond.classLink RL 13 (zEx 1) ∈ wsL_addCell := by decide +kernel
theorem lL_addCell_2 : Cond.classLink RL 15 (zEx 2) ∈ wsL_addCell := by decide +kernel
set_option maxRecDepth 100000 in
set_option maxHeartbeats 4000000 in
theorem mL_addCell {l : Launch} {a : Nat → Nat} {cy : Nat → ClassId} {D : va_G} {tV : Nat} {sa : Nat → Nat} (hl : l.stackTraces = false) {P : Int → Sto → Prop} {X : Nat → Sto → Prop} {σ : Sto} {k0 : Nat} {x1 : Int} {x2 : Int} {x3 : Int} {k4 : Nat} (hk0 : zk k0 = 5) (hk4 : zk k4 = 9) (hq : vL_addCell k0 x1 x2 x3 k4 P σ) : zMX l yL_addCell wsL_addCell rL_addCell a cy D tV sa [.ref (a k0), .int (zI x1), .int (zI x2), .int (zI x3), .ref (a k4)] σ (zPI P) X 2 12 :=
  zMXH_of (cc := cL_addCell) (maxL := 6) (ret := (some .int)) (hh := [(0, 12, 15, 21), (0, 12, 19, 13), (0, 12, 23, 15)]) (by decide) rfl (Nat.le_of_ble_eq_true rfl) (L0 := [(0, .ref (a k0)), (1, .int (zI x1)), (2, .int (zI x2)), (3, .int (zI x3)), (4, .ref (a k4))]) rfl (fun p e s m args below meth c C hr ht => by
  unfold vL_addCell at hq
  refine zr_aload C dL_addCell_0 (k := 4) rfl rfl ?_
  refine zr_iconst C dL_addCell_2 rfl ?_
  refine zr_aload_n C dL_addCell_3 rfl (k := 0) rfl rfl ?_
  refine zr_iload_n C dL_addCell_4 rfl (k := 1) rfl rfl ?_
  refine zr_iload_n C dL_addCell_5 rfl (k := 2) rfl rfl ?_
  refine zr_iload_n C dL_addCell_6 rfl (k := 3) rfl rfl ?_
  refine zr_xcall (zrunVX C (st := [.int (zI 0), .ref (a k4)]) (mX6_addCell hl hk0 hq) (cwV 3 C.2.2.2.2.1 gL_addCell_X6_addCell rfl rfl rfl (by decide +kernel) ⟨Nat.le_of_ble_eq_true rfl, Nat.le_of_ble_eq_true rfl⟩) (zE_5 hk0) (zk_lt hk0 (by decide)) (T := TX6) (N := 8) rfl rfl rfl (Nat.le_of_ble_eq_true rfl) dL_addCell_7 ⟨(Nat.le_of_ble_eq_true rfl), (Nat.le_of_ble_eq_true rfl)⟩) rfl (fun i s9 H1 locs1 ls ce q9 hi hx hO hP hS hL h1 h2 h3 => ?_) (fun v s1 hv => ?_)
  · rcases (show i = 0 ∨ i = 1 ∨ i = 2 ∨ i = 3 by omega) with rfl | rfl | rfl | rfl
    · have hq := hx.1 rfl
      refine zr_catch C ht [] ⟨0, 12, 15, 21⟩ [⟨0, 12, 19, 13⟩, ⟨0, 12, 23, 15⟩] rfl 0 (by decide) (fun _ h => nomatch h) rfl (by decide) lL_addCell_0 h1 h2 h3 ?_
      refine (?_ : zX p l e rL_addCell s m args below meth c 6 a cy D (vx_MQ below (fun _ => zQo a cy D s.heap.size (zPI P)) (zXC a cy D s.heap.size X) args s 2 12 (zA a s.heap.size)) 2 12 s9 15 [(0, .ref (a k0)), (1, .int (zI x1)), (2, .int (zI x2)), (3, .int (zI x3)), (4, .ref (a k4))] [.ref q9]) H1 locs1 ls hO hP hS hL
      refine zr_astore C (L' := [(5, .ref q9), (0, .ref (a k0)), (1, .int (zI x1)), (2, .int (zI x2)), (3, .int (zI x3)), (4, .ref (a k4))]) dL_addCell_15 (by decide) rfl rfl ?_
      refine zr_iconst C dL_addCell_17 rfl ?_
      exact zr_widen (Nat.le_of_ble_eq_true rfl) (Nat.le_of_ble_eq_true rfl) (zr_vx (zr_iret C hr dL_addCell_18 ⟨_, rfl, hq⟩))
    · have hq := hx.2.1 rfl
      refine zr_catch C ht [⟨0, 12, 15, 21⟩] ⟨0, 12, 19, 13⟩ [⟨0, 12, 23, 15⟩] rfl 1 (by decide) (List.forall_mem_cons.mpr ⟨⟨by decide, 0, by decide, by decide, lL_addCell_0⟩, (fun _ h => nomatch h)⟩) rfl (by decide) lL_addCell_1 h1 h2 h3 ?_
      refine (?_ : zX p l e rL_addCell s m args below meth c 6 a cy D (vx_MQ below (fun _ => zQo a cy D s.heap.size (zPI P)) (zXC a cy D s.heap.size X) args s 2 12 (zA a s.heap.size)) 2 12 s9 19 [(0, .ref (a k0)), (1, .int (zI x1)), (2, .int (zI x2)), (3, .int (zI x3)), (4, .ref (a k4))] [.ref q9]) H1 locs1 ls hO hP hS hL
      refine zr_astore C (L' := [(5, .ref q9), (0, .ref (a k0)), (1, .int (zI x1)), (2, .int (zI x2)), (3, .int (zI x3)), (4, .ref (a k4))]) dL_addCell_19 (by decide) rfl rfl ?_
      refine zr_iconst C dL_addCell_21 rfl ?_
      exact zr_widen (Nat.le_of_ble_eq_true rfl) (Nat.le_of_ble_eq_true rfl) (zr_vx (zr_iret C hr dL_addCell_22 ⟨_, rfl, hq⟩))
    · have hq := hx.2.2.1 rfl
      refine zr_catch C ht [⟨0, 12, 15, 21⟩, ⟨0, 12, 19, 13⟩] ⟨0, 12, 23, 15⟩ [] rfl 2 (by decide) (List.forall_mem_cons.mpr ⟨⟨by decide, 0, by decide, by decide, lL_addCell_0⟩, (List.forall_mem_cons.mpr ⟨⟨by decide, 1, by decide, by decide, lL_addCell_1⟩, (fun _ h => nomatch h)⟩)⟩) rfl (by decide) lL_addCell_2 h1 h2 h3 ?_
      refine (?_ : zX p l e rL_addCell s m args below meth c 6 a cy D (vx_MQ below (fun _ => zQo a cy D s.heap.size (zPI P)) (zXC a cy D s.heap.size X) args s 2 12 (zA a s.heap.size)) 2 12 s9 23 [(0, .ref (a k0)), (1, .int (zI x1)), (2, .int (zI x2)), (3, .int (zI x3)), (4, .ref (a k4))] [.ref q9]) H1 locs1 ls hO hP hS hL
      refine zr_astore C (L' := [(5, .ref q9), (0, .ref (a k0)), (1, .int (zI x1)), (2, .int (zI x2)), (3, .int (zI x3)), (4, .ref (a k4))]) dL_addCell_23 (by decide) rfl rfl ?_
      refine zr_iconst C dL_addCell_25 rfl ?_
      exact zr_widen (Nat.le_of_ble_eq_true rfl) (Nat.le_of_ble_eq_true rfl) (zr_vx (zr_iret C hr dL_addCell_26 ⟨_, rfl, hq⟩))
    · exact (hx.2.2.2 rfl).elim
  · obtain ⟨r1, rfl, hq⟩ := hv
    obtain ⟨h0, hq⟩ := hq
    refine zr_i2l C dL_addCell_10 h0 rfl ?_
    obtain ⟨h0, hq⟩ := hq
    refine zr_last C hk4 (by decide) h0 dL_addCell_11 rfl (fun s2 es2 => ?_)
    have hq := hq s2 es2
    refine zr_goto C (tgt := 27) dL_addCell_12 (by decide) ?_
    refine zr_iconst C dL_addCell_27 rfl ?_
    exact zr_widen (Nat.le_of_ble_eq_true rfl) (Nat.le_of_ble_eq_true rfl) (zr_vx (zr_iret C hr dL_addCell_28 ⟨_, rfl, hq⟩)))
/-! InflectionGuesserLaw.removeLastCell(LInflectionGuesser;I[J)I -/
set_option maxRecDepth 20000 in
theorem ggL_removeLastCell_X6_removeLastCell : GoodIn wsL_removeLastCell wsX6_removeLastCell := goodIn_ca (goodIn_ca (goodIn_r _ [7, 8, 9, 10, 11, 12, 13, 14, 15, 6, 16, 17, 18, 19, 20, 21, 22, 23, 24, 25, 26, 27, 28, 29, 30, 31, 32, 33, 34, 35, 36, 37, 38, 39, 40, 41, 42, 43, 44, 45, 46, 47, 48, 49, 50, 51, 52, 53, 54, 55, 56, 57, 58, 59, 60, 61, 62, 63, 64, 65, 66, 67, 68, 69, 70, 71, 72, 73, 74, 75, 76, 77, 78, 79, 80, 81, 82, 83, 84, 85, 86, 87, 88, 89, 90, 91, 92, 93, 94, 95, 96] (by decide +kernel) (by decide +kernel)) (goodIn_sub (fun _ h => List.mem_cons_of_mem _ (List.mem_append_left _ (List.mem_append_right _ h))) (by decide +kernel))) (goodIn_sub (fun _ h => List.mem_cons_of_mem _ (List.mem_append_right _ h)) (by decide +kernel))
set_option maxRecDepth 20000 in
theorem gL_removeLastCell_X6_removeLastCell : GoodIn wsL_removeLastCell (wsV RL 31 RX6 yX6_removeLastCell wsX6_removeLastCell) := goodIn_app (goodIn_of _ (by decide +kernel)) ggL_removeLastCell_X6_removeLastCell
theorem dL_removeLastCell_0 : decode cL_removeLastCell 0 = .ok (.aload_n 2, 1) := by decide +kernel
theorem dL_removeLastCell_1 : decode cL_removeLastCell 1 = .ok (.iconst 0, 1) := by decide +kernel
theorem dL_removeLastCell_2 : decode cL_removeLastCell 2 = .ok (.aload_n 0, 1) := by decide +kernel
theorem dL_removeLastCell_3 : decode cL_removeLastCell 3 = .ok (.iload_n 1, 1) := by decide +kernel
theorem dL_removeLastCell_4 : decode cL_removeLastCell 4 = .ok (.invokevirtual 31, 3) := by decide +kernel
theorem dL_removeLastCell_7 : decode cL_removeLastCell 7 = .ok (.i2l, 1) := by decide +kernel
theorem dL_removeLastCell_8 : decode cL_removeLastCell 8 = .ok (.lastore, 1) := by decide +kernel
theorem dL_removeLastCell_9 : decode cL_removeLastCell 9 = .ok (.goto 9, 3) := by decide +kernel
theorem dL_removeLastCell_12 : decode cL_removeLastCell 12 = .ok (.astore_n 3, 1) := by decide +kernel
theorem dL_removeLastCell_13 : decode cL_removeLastCell 13 = .ok (.iconst 1, 1) := by decide +kernel
theorem dL_removeLastCell_14 : decode cL_removeLastCell 14 = .ok (.ireturn, 1) := by decide +kernel
theorem dL_removeLastCell_15 : decode cL_removeLastCell 15 = .ok (.astore_n 3, 1) := by decide +kernel
theorem dL_removeLastCell_16 : decode cL_removeLastCell 16 = .ok (.iconst 2, 1) := by decide +kernel
theorem dL_removeLastCell_17 : decode cL_removeLastCell 17 = .ok (.ireturn, 1) := by decide +kernel
theorem dL_removeLastCell_18 : decode cL_removeLastCell 18 = .ok (.iconst 0, 1) := by decide +kernel
theorem dL_removeLastCell_19 : decode cL_removeLastCell 19 = .ok (.ireturn, 1) := by decide +kernel
def rL_removeLastCell : Room := { frames := 8, cells := 2, slots := 12, locals := 132 }
theorem lL_removeLastCell_0 : Cond.classLink RL 21 (zEx 0) ∈ wsL_removeLastCell := by decide +kernel
theorem lL_removeLastCell_3 : Cond.classLink RL 35 (zEx 3) ∈ wsL_removeLastCell := by decide +kernel
set_option maxRecDepth 100000 in
set_option maxHeartbeats 4000000 in
theorem mL_removeLastCell {l : Launch} {a : Nat → Nat} {cy : Nat → ClassId} {D : va_G} {tV : Nat} {sa : Nat → Nat} (hl : l.stackTraces = false) {P : Int → Sto → Prop} {X : Nat → Sto → Prop} {σ : Sto} {k0 : Nat} {x1 : Int} {k2 : Nat} (hk0 : zk k0 = 5) (hk2 : zk k2 = 9) (hq : vL_removeLastCell k0 x1 k2 P σ) : zMX l yL_removeLastCell wsL_removeLastCell rL_removeLastCell a cy D tV sa [.ref (a k0), .int (zI x1), .ref (a k2)] σ (zPI P) X 2 12 :=
  zMXH_of (cc := cL_removeLastCell) (maxL := 4) (ret := (some .int)) (hh := [(0, 9, 12, 21), (0, 9, 15, 35)]) (by decide) rfl (Nat.le_of_ble_eq_true rfl) (L0 := [(0, .ref (a k0)), (1, .int (zI x1)), (2, .ref (a k2))]) rfl (fun p e s m args below meth c C hr ht => by
  unfold vL_removeLastCell at hq
  refine zr_aload_n C dL_removeLastCell_0 rfl (k := 2) rfl rfl ?_
  refine zr_iconst C dL_removeLastCell_1 rfl ?_
  refine zr_aload_n C dL_removeLastCell_2 rfl (k := 0) rfl rfl ?_
  refine zr_iload_n C dL_removeLastCell_3 rfl (k := 1) rfl rfl ?_
  refine zr_xcall (zrunVX C (st := [.int (zI 0), .ref (a k2)]) (mX6_removeLastCell hl hk0 hq) (cwV 1 C.2.2.2.2.1 gL_removeLastCell_X6_removeLastCell rfl rfl rfl (by decide +kernel) ⟨Nat.le_of_ble_eq_true rfl, Nat.le_of_ble_eq_true rfl⟩) (zE_5 hk0) (zk_lt hk0 (by decide)) (T := TX6) (N := 8) rfl rfl rfl (Nat.le_of_ble_eq_true rfl) dL_removeLastCell_4 ⟨(Nat.le_of_ble_eq_true rfl), (Nat.le_of_ble_eq_true rfl)⟩) rfl (fun i s9 H1 locs1 ls ce q9 hi hx hO hP hS hL h1 h2 h3 => ?_) (fun v s1 hv => ?_)
  · rcases (show i = 0 ∨ i = 1 ∨ i = 2 ∨ i = 3 by omega) with rfl | rfl | rfl | rfl
    · have hq := hx.1 rfl
      refine zr_catch C ht [] ⟨0, 9, 12, 21⟩ [⟨0, 9, 15, 35⟩] rfl 0 (by decide) (fun _ h => nomatch h) rfl (by decide) lL_removeLastCell_0 h1 h2 h3 ?_
      refine (?_ : zX p l e rL_removeLastCell s m args below meth c 4 a cy D (vx_MQ below (fun _ => zQo a cy D s.heap.size (zPI P)) (zXC a cy D s.heap.size X) args s 2 12 (zA a s.heap.size)) 2 12 s9 12 [(0, .ref (a k0)), (1, .int (zI x1)), (2, .ref (a k2))] [.ref q9]) H1 locs1 ls hO hP hS hL
      refine zr_astore_n C (L' := [(3, .ref q9), (0, .ref (a k0)), (1, .int (zI x1)), (2, .ref (a k2))]) dL_removeLastCell_12 rfl (by decide) rfl rfl ?_
      refine zr_iconst C dL_removeLastCell_13 rfl ?_
      exact zr_widen (Nat.le_of_ble_eq_true rfl) (Nat.le_of_ble_eq_true rfl) (zr_vx (zr_iret C hr dL_removeLastCell_14 ⟨_, rfl, hq⟩))
    · exact (hx.2.1 rfl).elim
    · exact (hx.2.2.1 rfl).elim
    · have hq := hx.2.2.2 rfl
      refine zr_catch C ht [⟨0, 9, 12, 21⟩] ⟨0, 9, 15, 35⟩ [] rfl 3 (by decide) (List.forall_mem_cons.mpr ⟨⟨by decide, 0, by decide, by decide, lL_removeLastCell_0⟩, (fun _ h => nomatch h)⟩) rfl (by decide) lL_removeLastCell_3 h1 h2 h3 ?_
      refine (?_ : zX p l e rL_removeLastCell s m args below meth c 4 a cy D (vx_MQ below (fun _ => zQo a cy D s.heap.size (zPI P)) (zXC a cy D s.heap.size X) args s 2 12 (zA a s.heap.size)) 2 12 s9 15 [(0, .ref (a k0)), (1, .int (zI x1)), (2, .ref (a k2))] [.ref q9]) H1 locs1 ls hO hP hS hL
      refine zr_astore_n C (L' := [(3, .ref q9), (0, .ref (a k0)), (1, .int (zI x1)), (2, .ref (a k2))]) dL_removeLastCell_15 rfl (by decide) rfl rfl ?_
      refine zr_iconst C dL_removeLastCell_16 rfl ?_
      exact zr_widen (Nat.le_of_ble_eq_true rfl) (Nat.le_of_ble_eq_true rfl) (zr_vx (zr_iret C hr dL_removeLastCell_17 ⟨_, rfl, hq⟩))
  · obtain ⟨r1, rfl, hq⟩ := hv
    obtain ⟨h0, hq⟩ := hq
    refine zr_i2l C dL_removeLastCell_7 h0 rfl ?_
    obtain ⟨h0, hq⟩ := hq
    refine zr_last C hk2 (by decide) h0 dL_removeLastCell_8 rfl (fun s2 es2 => ?_)
    have hq := hq s2 es2
    refine zr_goto C (tgt := 18) dL_removeLastCell_9 (by decide) ?_
    refine zr_iconst C dL_removeLastCell_18 rfl ?_
    exact zr_widen (Nat.le_of_ble_eq_true rfl) (Nat.le_of_ble_eq_true rfl) (zr_vx (zr_iret C hr dL_removeLastCell_19 ⟨_, rfl, hq⟩)))
/-! InflectionGuesserLaw.cellCount(LInflectionGuesser;I[J)I -/
set_option maxRecDepth 20000 in
theorem ggL_cellCount_X6_cellCount : GoodIn wsL_cellCount wsX6_cellCount := goodIn_ca (goodIn_r _ [6, 7, 8, 9, 10, 5, 11, 12, 13, 14, 15, 16, 17, 18, 19, 20, 21, 22, 23, 24, 25, 26, 27, 28, 29, 30, 31, 32, 33, 34, 35] (by decide +kernel) (by decide +kernel)) (goodIn_sub (fun _ h => List.mem_cons_of_mem _ (List.mem_append_right _ h)) (by decide +kernel))
set_option maxRecDepth 20000 in
theorem gL_cellCount_X6_cellCount : GoodIn wsL_cellCount (wsV RL 37 RX6 yX6_cellCount wsX6_cellCount) := goodIn_app (goodIn_of _ (by decide +kernel)) ggL_cellCount_X6_cellCount
theorem dL_cellCount_0 : decode cL_cellCount 0 = .ok (.aload_n 2, 1) := by decide +kernel
theorem dL_cellCount_1 : decode cL_cellCount 1 = .ok (.iconst 0, 1) := by decide +kernel
theorem dL_cellCount_2 : decode cL_cellCount 2 = .ok (.aload_n 0, 1) := by decide +kernel
theorem dL_cellCount_3 : decode cL_cellCount 3 = .ok (.iload_n 1, 1) := by decide +kernel
theorem dL_cellCount_4 : decode cL_cellCount 4 = .ok (.invokevirtual 37, 3) := by decide +kernel
theorem dL_cellCount_7 : decode cL_cellCount 7 = .ok (.i2l, 1) := by decide +kernel
theorem dL_cellCount_8 : decode cL_cellCount 8 = .ok (.lastore, 1) := by decide +kernel
theorem dL_cellCount_9 : decode cL_cellCount 9 = .ok (.goto 6, 3) := by decide +kernel
theorem dL_cellCount_12 : decode cL_cellCount 12 = .ok (.astore_n 3, 1) := by decide +kernel
theorem dL_cellCount_13 : decode cL_cellCount 13 = .ok (.iconst 1, 1) := by decide +kernel
theorem dL_cellCount_14 : decode cL_cellCount 14 = .ok (.ireturn, 1) := by decide +kernel
theorem dL_cellCount_15 : decode cL_cellCount 15 = .ok (.iconst 0, 1) := by decide +kernel
theorem dL_cellCount_16 : decode cL_cellCount 16 = .ok (.ireturn, 1) := by decide +kernel
def rL_cellCount : Room := { frames := 8, cells := 1, slots := 6, locals := 132 }
theorem lL_cellCount_0 : Cond.classLink RL 21 (zEx 0) ∈ wsL_cellCount := by decide +kernel
set_option maxRecDepth 100000 in
set_option maxHeartbeats 4000000 in
theorem mL_cellCount {l : Launch} {a : Nat → Nat} {cy : Nat → ClassId} {D : va_G} {tV : Nat} {sa : Nat → Nat} (hl : l.stackTraces = false) {P : Int → Sto → Prop} {X : Nat → Sto → Prop} {σ : Sto} {k0 : Nat} {x1 : Int} {k2 : Nat} (hk0 : zk k0 = 5) (hk2 : zk k2 = 9) (hq : vL_cellCount k0 x1 k2 P σ) : zMX l yL_cellCount wsL_cellCount rL_cellCount a cy D tV sa [.ref (a k0), .int (zI x1), .ref (a k2)] σ (zPI P) X 1 6 :=
  zMXH_of (cc := cL_cellCount) (maxL := 4) (ret := (some .int)) (hh := [(0, 9, 12, 21)]) (by decide) rfl (Nat.le_of_ble_eq_true rfl) (L0 := [(0, .ref (a k0)), (1, .int (zI x1)), (2, .ref (a k2))]) rfl (fun p e s m args below meth c C hr ht => by
  unfold vL_cellCount at hq
  refine zr_aload_n C dL_cellCount_0 rfl (k := 2) rfl rfl ?_
  refine zr_iconst C dL_cellCount_1 rfl ?_
  refine zr_aload_n C dL_cellCount_2 rfl (k := 0) rfl rfl ?_
  refine zr_iload_n C dL_cellCount_3 rfl (k := 1) rfl rfl ?_
  refine zr_xcall (zrunVX C (st := [.int (zI 0), .ref (a k2)]) (mX6_cellCount hl hk0 hq) (cwV 1 C.2.2.2.2.1 gL_cellCount_X6_cellCount rfl rfl rfl (by decide +kernel) ⟨Nat.le_of_ble_eq_true rfl, Nat.le_of_ble_eq_true rfl⟩) (zE_5 hk0) (zk_lt hk0 (by decide)) (T := TX6) (N := 8) rfl rfl rfl (Nat.le_of_ble_eq_true rfl) dL_cellCount_4 ⟨(Nat.le_of_ble_eq_true rfl), (Nat.le_of_ble_eq_true rfl)⟩) rfl (fun i s9 H1 locs1 ls ce q9 hi hx hO hP hS hL h1 h2 h3 => ?_) (fun v s1 hv => ?_)
  · rcases (show i = 0 ∨ i = 1 ∨ i = 2 ∨ i = 3 by omega) with rfl | rfl | rfl | rfl
    · have hq := hx.1 rfl
      refine zr_catch C ht [] ⟨0, 9, 12, 21⟩ [] rfl 0 (by decide) (fun _ h => nomatch h) rfl (by decide) lL_cellCount_0 h1 h2 h3 ?_
      refine (?_ : zX p l e rL_cellCount s m args below meth c 4 a cy D (vx_MQ below (fun _ => zQo a cy D s.heap.size (zPI P)) (zXC a cy D s.heap.size X) args s 1 6 (zA a s.heap.size)) 1 6 s9 12 [(0, .ref (a k0)), (1, .int (zI x1)), (2, .ref (a k2))] [.ref q9]) H1 locs1 ls hO hP hS hL
      refine zr_astore_n C (L' := [(3, .ref q9), (0, .ref (a k0)), (1, .int (zI x1)), (2, .ref (a k2))]) dL_cellCount_12 rfl (by decide) rfl rfl ?_
      refine zr_iconst C dL_cellCount_13 rfl ?_
      exact zr_widen (Nat.le_of_ble_eq_true rfl) (Nat.le_of_ble_eq_true rfl) (zr_vx (zr_iret C hr dL_cellCount_14 ⟨_, rfl, hq⟩))
    · exact (hx.2.1 rfl).elim
    · exact (hx.2.2.1 rfl).elim
    · exact (hx.2.2.2 rfl).elim
  · obtain ⟨r1, rfl, hq⟩ := hv
    obtain ⟨h0, hq⟩ := hq
    refine zr_i2l C dL_cellCount_7 h0 rfl ?_
    obtain ⟨h0, hq⟩ := hq
    refine zr_last C hk2 (by decide) h0 dL_cellCount_8 rfl (fun s2 es2 => ?_)
    have hq := hq s2 es2
    refine zr_goto C (tgt := 15) dL_cellCount_9 (by decide) ?_
    refine zr_iconst C dL_cellCount_15 rfl ?_
    exact zr_widen (Nat.le_of_ble_eq_true rfl) (Nat.le_of_ble_eq_true rfl) (zr_vx (zr_iret C hr dL_cellCount_16 ⟨_, rfl, hq⟩)))
/-! InflectionGuesserLaw.cell(LInflectionGuesser;III[J)I -/
set_option maxRecDepth 20000 in
theorem ggL_cell_X6_cell : GoodIn wsL_cell wsX6_cell := goodIn_ca (goodIn_ca (goodIn_r _ [7, 8, 9, 10, 11, 12, 13, 6, 14, 15, 16, 17, 18, 19, 20, 21, 22, 23, 24, 25, 26, 27, 28, 29, 30, 31, 32, 33, 34, 35, 36, 37, 38, 39, 40, 41, 42, 43, 44, 45, 46, 47, 48] (by decide +kernel) (by decide +kernel)) (goodIn_sub (fun _ h => List.mem_cons_of_mem _ (List.mem_append_left _ (List.mem_append_right _ h))) (by decide +kernel))) (goodIn_sub (fun _ h => List.mem_cons_of_mem _ (List.mem_append_right _ h)) (by decide +kernel))
set_option maxRecDepth 20000 in
theorem gL_cell_X6_cell : GoodIn wsL_cell (wsV RL 40 RX6 yX6_cell wsX6_cell) := goodIn_app (goodIn_of _ (by decide +kernel)) ggL_cell_X6_cell
theorem dL_cell_0 : decode cL_cell 0 = .ok (.aload 4, 2) := by decide +kernel
theorem dL_cell_2 : decode cL_cell 2 = .ok (.iconst 0, 1) := by decide +kernel
theorem dL_cell_3 : decode cL_cell 3 = .ok (.aload_n 0, 1) := by decide +kernel
theorem dL_cell_4 : decode cL_cell 4 = .ok (.iload_n 1, 1) := by decide +kernel
theorem dL_cell_5 : decode cL_cell 5 = .ok (.iload_n 2, 1) := by decide +kernel
theorem dL_cell_6 : decode cL_cell 6 = .ok (.iload_n 3, 1) := by decide +kernel
theorem dL_cell_7 : decode cL_cell 7 = .ok (.invokevirtual 40, 3) := by decide +kernel
theorem dL_cell_10 : decode cL_cell 10 = .ok (.i2l, 1) := by decide +kernel
theorem dL_cell_11 : decode cL_cell 11 = .ok (.lastore, 1) := by decide +kernel
theorem dL_cell_12 : decode cL_cell 12 = .ok (.goto 11, 3) := by decide +kernel
theorem dL_cell_15 : decode cL_cell 15 = .ok (.astore 5, 2) := by decide +kernel
theorem dL_cell_17 : decode cL_cell 17 = .ok (.iconst 1, 1) := by decide +kernel
theorem dL_cell_18 : decode cL_cell 18 = .ok (.ireturn, 1) := by decide +kernel
theorem dL_cell_19 : decode cL_cell 19 = .ok (.astore 5, 2) := by decide +kernel
theorem dL_cell_21 : decode cL_cell 21 = .ok (.iconst 2, 1) := by decide +kernel
theorem dL_cell_22 : decode cL_cell 22 = .ok (.ireturn, 1) := by decide +kernel
theorem dL_cell_23 : decode cL_cell 23 = .ok (.iconst 0, 1) := by decide +kernel
theorem dL_cell_24 : decode cL_cell 24 = .ok (.ireturn, 1) := by decide +kernel
def rL_cell : Room := { frames := 9, cells := 3, slots := 18, locals := 157 }
theorem lL_cell_0 : Cond.classLink RL 21 (zEx 0) ∈ wsL_cell := by decide +kernel
theorem lL_cell_1 : Cond.classLink RL 13 (zEx 1) ∈ wsL_cell := by decide +kernel
set_option maxRecDepth 100000 in
set_option maxHeartbeats 4000000 in
theorem mL_cell {l : Launch} {a : Nat → Nat} {cy : Nat → ClassId} {D : va_G} {tV : Nat} {sa : Nat → Nat} (hl : l.stackTraces = false) {P : Int → Sto → Prop} {X : Nat → Sto → Prop} {σ : Sto} {k0 : Nat} {x1 : Int} {x2 : Int} {x3 : Int} {k4 : Nat} (hk0 : zk k0 = 5) (hk4 : zk k4 = 9) (hq : vL_cell k0 x1 x2 x3 k4 P σ) : zMX l yL_cell wsL_cell rL_cell a cy D tV sa [.ref (a k0), .int (zI x1), .int (zI x2), .int (zI x3), .ref (a k4)] σ (zPI P) X 3 18 :=
  zMXH_of (cc := cL_cell) (maxL := 6) (ret := (some .int)) (hh := [(0, 12, 15, 21), (0, 12, 19, 13)]) (by decide) rfl (Nat.le_of_ble_eq_true rfl) (L0 := [(0, .ref (a k0)), (1, .int (zI x1)), (2, .int (zI x2)), (3, .int (zI x3)), (4, .ref (a k4))]) rfl (fun p e s m args below meth c C hr ht => by
  unfold vL_cell at hq
  refine zr_aload C dL_cell_0 (k := 4) rfl rfl ?_
  refine zr_iconst C dL_cell_2 rfl ?_
  refine zr_aload_n C dL_cell_3 rfl (k := 0) rfl rfl ?_
  refine zr_iload_n C dL_cell_4 rfl (k := 1) rfl rfl ?_
  refine zr_iload_n C dL_cell_5 rfl (k := 2) rfl rfl ?_
  refine zr_iload_n C dL_cell_6 rfl (k := 3) rfl rfl ?_
  refine zr_xcall (zrunVX C (st := [.int (zI 0), .ref (a k4)]) (mX6_cell hl hk0 hq) (cwV 3 C.2.2.2.2.1 gL_cell_X6_cell rfl rfl rfl (by decide +kernel) ⟨Nat.le_of_ble_eq_true rfl, Nat.le_of_ble_eq_true rfl⟩) (zE_5 hk0) (zk_lt hk0 (by decide)) (T := TX6) (N := 8) rfl rfl rfl (Nat.le_of_ble_eq_true rfl) dL_cell_7 ⟨(Nat.le_of_ble_eq_true rfl), (Nat.le_of_ble_eq_true rfl)⟩) rfl (fun i s9 H1 locs1 ls ce q9 hi hx hO hP hS hL h1 h2 h3 => ?_) (fun v s1 hv => ?_)
  · rcases (show i = 0 ∨ i = 1 ∨ i = 2 ∨ i = 3 by omega) with rfl | rfl | rfl | rfl
    · have hq := hx.1 rfl
      refine zr_catch C ht [] ⟨0, 12, 15, 21⟩ [⟨0, 12, 19, 13⟩] rfl 0 (by decide) (fun _ h => nomatch h) rfl (by decide) lL_cell_0 h1 h2 h3 ?_
      refine (?_ : zX p l e rL_cell s m args below meth c 6 a cy D (vx_MQ below (fun _ => zQo a cy D s.heap.size (zPI P)) (zXC a cy D s.heap.size X) args s 3 18 (zA a s.heap.size)) 3 18 s9 15 [(0, .ref (a k0)), (1, .int (zI x1)), (2, .int (zI x2)), (3, .int (zI x3)), (4, .ref (a k4))] [.ref q9]) H1 locs1 ls hO hP hS hL
      refine zr_astore C (L' := [(5, .ref q9), (0, .ref (a k0)), (1, .int (zI x1)), (2, .int (zI x2)), (3, .int (zI x3)), (4, .ref (a k4))]) dL_cell_15 (by decide) rfl rfl ?_
      refine zr_iconst C dL_cell_17 rfl ?_
      exact zr_widen (Nat.le_of_ble_eq_true rfl) (Nat.le_of_ble_eq_true rfl) (zr_vx (zr_iret C hr dL_cell_18 ⟨_, rfl, hq⟩))
    · have hq := hx.2.1 rfl
      refine zr_catch C ht [⟨0, 12, 15, 21⟩] ⟨0, 12, 19, 13⟩ [] rfl 1 (by decide) (List.forall_mem_cons.mpr ⟨⟨by decide, 0, by decide, by decide, lL_cell_0⟩, (fun _ h => nomatch h)⟩) rfl (by decide) lL_cell_1 h1 h2 h3 ?_
      refine (?_ : zX p l e rL_cell s m args below meth c 6 a cy D (vx_MQ below (fun _ => zQo a cy D s.heap.size (zPI P)) (zXC a cy D s.heap.size X) args s 3 18 (zA a s.heap.size)) 3 18 s9 19 [(0, .ref (a k0)), (1, .int (zI x1)), (2, .int (zI x2)), (3, .int (zI x3)), (4, .ref (a k4))] [.ref q9]) H1 locs1 ls hO hP hS hL
      refine zr_astore C (L' := [(5, .ref q9), (0, .ref (a k0)), (1, .int (zI x1)), (2, .int (zI x2)), (3, .int (zI x3)), (4, .ref (a k4))]) dL_cell_19 (by decide) rfl rfl ?_
      refine zr_iconst C dL_cell_21 rfl ?_
      exact zr_widen (Nat.le_of_ble_eq_true rfl) (Nat.le_of_ble_eq_true rfl) (zr_vx (zr_iret C hr dL_cell_22 ⟨_, rfl, hq⟩))
    · exact (hx.2.2.1 rfl).elim
    · exact (hx.2.2.2 rfl).elim
  · obtain ⟨r1, rfl, hq⟩ := hv
    obtain ⟨h0, hq⟩ := hq
    refine zr_i2l C dL_cell_10 h0 rfl ?_
    obtain ⟨h0, hq⟩ := hq
    refine zr_last C hk4 (by decide) h0 dL_cell_11 rfl (fun s2 es2 => ?_)
    have hq := hq s2 es2
    refine zr_goto C (tgt := 23) dL_cell_12 (by decide) ?_
    refine zr_iconst C dL_cell_23 rfl ?_
    exact zr_widen (Nat.le_of_ble_eq_true rfl) (Nat.le_of_ble_eq_true rfl) (zr_vx (zr_iret C hr dL_cell_24 ⟨_, rfl, hq⟩)))
/-! InflectionGuesserLaw.setCondition(LInflectionGuesser;III[J)I -/
set_option maxRecDepth 20000 in
theorem ggL_setCondition_X6_setCondition : GoodIn wsL_setCondition wsX6_setCondition := goodIn_ca (goodIn_ca (goodIn_r _ [7, 8, 9, 10, 11, 12, 13, 14, 15, 16, 6, 17, 18, 19, 20, 21, 22, 23, 24, 25, 26, 27, 28, 29, 30, 31, 32, 33, 34, 35, 36, 37, 38, 39, 40, 41, 42, 43, 44, 45, 46, 47, 48, 49, 50, 51, 52, 53, 54, 55, 56, 57, 58, 59, 60, 61, 62, 63, 64, 65, 66, 67, 68, 69, 70, 71, 72, 73, 74, 75, 76, 77, 78, 79, 80, 81, 82, 83, 84, 85, 86, 87, 88, 89, 90, 91, 92, 93, 94, 95, 96, 97, 98, 99, 100, 101, 102, 103, 104, 105, 106, 107, 108, 109, 110, 111, 112, 113] (by decide +kernel) (by decide +kernel)) (goodIn_sub (fun _ h => List.mem_cons_of_mem _ (List.mem_append_left _ (List.mem_append_right _ h))) (by decide +kernel))) (goodIn_sub (fun _ h => List.mem_cons_of_mem _ (List.mem_append_right _ h)) (by decide +kernel))
set_option maxRecDepth 20000 in
theorem gL_setCondition_X6_setCondition : GoodIn wsL_setCondition (wsV RL 43 RX6 yX6_setCondition wsX6_setCondition) := goodIn_app (goodIn_of _ (by decide +kernel)) ggL_setCondition_X6_setCondition
theorem dL_setCondition_0 : decode cL_setCondition 0 = .ok (.aload 4, 2) := by decide +kernel
theorem dL_setCondition_2 : decode cL_setCondition 2 = .ok (.iconst 0, 1) := by decide +kernel
theorem dL_setCondition_3 : decode cL_setCondition 3 = .ok (.aload_n 0, 1) := by decide +kernel
theorem dL_setCondition_4 : decode cL_setCondition 4 = .ok (.iload_n 1, 1) := by decide +kernel
theorem dL_setCondition_5 : decode cL_setCondition 5 = .ok (.iload_n 2, 1) := by decide +kernel
theorem dL_setCondition_6 : decode cL_setCondition 6 = .ok (.iload_n 3, 1) := by decide +kernel
theorem dL_setCondition_7 : decode cL_setCondition 7 = .ok (.invokevirtual 43, 3) := by decide +kernel
theorem dL_setCondition_10 : decode cL_setCondition 10 = .ok (.i2l, 1) := by decide +kernel
theorem dL_setCondition_11 : decode cL_setCondition 11 = .ok (.lastore, 1) := by decide +kernel
theorem dL_setCondition_12 : decode cL_setCondition 12 = .ok (.goto 11, 3) := by decide +kernel
theorem dL_setCondition_15 : decode cL_setCondition 15 = .ok (.astore 5, 2) := by decide +kernel
theorem dL_setCondition_17 : decode cL_setCondition 17 = .ok (.iconst 1, 1) := by decide +kernel
theorem dL_setCondition_18 : decode cL_setCondition 18 = .ok (.ireturn, 1) := by decide +kernel
theorem dL_setCondition_19 : decode cL_setCondition 19 = .ok (.astore 5, 2) := by decide +kernel
theorem dL_setCondition_21 : decode cL_setCondition 21 = .ok (.iconst 2, 1) := by decide +kernel
theorem dL_setCondition_22 : decode cL_setCondition 22 = .ok (.ireturn, 1) := by decide +kernel
theorem dL_setCondition_23 : decode cL_setCondition 23 = .ok (.iconst 0, 1) := by decide +kernel
theorem dL_setCondition_24 : decode cL_setCondition 24 = .ok (.ireturn, 1) := by decide +kernel
def rL_setCondition : Room := { frames := 8, cells := 2, slots := 12, locals := 135 }
theorem lL_setCondition_0 : Cond.classLink RL 21 (zEx 0) ∈ wsL_setCondition := by decide +kernel
theorem lL_setCondition_1 : Cond.classLink RL 13 (zEx 1) ∈ wsL_setCondition := by decide +kernel
set_option maxRecDepth 100000 in
set_option maxHeartbeats 4000000 in
theorem mL_setCondition {l : Launch} {a : Nat → Nat} {cy : Nat → ClassId} {D : va_G} {tV : Nat} {sa : Nat → Nat} (hl : l.stackTraces = false) {P : Int → Sto → Prop} {X : Nat → Sto → Prop} {σ : Sto} {k0 : Nat} {x1 : Int} {x2 : Int} {x3 : Int} {k4 : Nat} (hk0 : zk k0 = 5) (hk4 : zk k4 = 9) (hq : vL_setCondition k0 x1 x2 x3 k4 P σ) : zMX l yL_setCondition wsL_setCondition rL_setCondition a cy D tV sa [.ref (a k0), .int (zI x1), .int (zI x2), .int (zI x3), .ref (a k4)] σ (zPI P) X 2 12 :=
  zMXH_of (cc := cL_setCondition) (maxL := 6) (ret := (some .int)) (hh := [(0, 12, 15, 21), (0, 12, 19, 13)]) (by decide) rfl (Nat.le_of_ble_eq_true rfl) (L0 := [(0, .ref (a k0)), (1, .int (zI x1)), (2, .int (zI x2)), (3, .int (zI x3)), (4, .ref (a k4))]) rfl (fun p e s m args below meth c C hr ht => by
  unfold vL_setCondition at hq
  refine zr_aload C dL_setCondition_0 (k := 4) rfl rfl ?_
  refine zr_iconst C dL_setCondition_2 rfl ?_
  refine zr_aload_n C dL_setCondition_3 rfl (k := 0) rfl rfl ?_
  refine zr_iload_n C dL_setCondition_4 rfl (k := 1) rfl rfl ?_
  refine zr_iload_n C dL_setCondition_5 rfl (k := 2) rfl rfl ?_
  refine zr_iload_n C dL_setCondition_6 rfl (k := 3) rfl rfl ?_
  refine zr_xcall (zrunVX C (st := [.int (zI 0), .ref (a k4)]) (mX6_setCondition hl hk0 hq) (cwV 3 C.2.2.2.2.1 gL_setCondition_X6_setCondition rfl rfl rfl (by decide +kernel) ⟨Nat.le_of_ble_eq_true rfl, Nat.le_of_ble_eq_true rfl⟩) (zE_5 hk0) (zk_lt hk0 (by decide)) (T := TX6) (N := 8) rfl rfl rfl (Nat.le_of_ble_eq_true rfl) dL_setCondition_7 ⟨(Nat.le_of_ble_eq_true rfl), (Nat.le_of_ble_eq_true rfl)⟩) rfl (fun i s9 H1 locs1 ls ce q9 hi hx hO hP hS hL h1 h2 h3 => ?_) (fun v s1 hv => ?_)
  · rcases (show i = 0 ∨ i = 1 ∨ i = 2 ∨ i = 3 by omega) with rfl | rfl | rfl | rfl
    · have hq := hx.1 rfl
      refine zr_catch C ht [] ⟨0, 12, 15, 21⟩ [⟨0, 12, 19, 13⟩] rfl 0 (by decide) (fun _ h => nomatch h) rfl (by decide) lL_setCondition_0 h1 h2 h3 ?_
      refine (?_ : zX p l e rL_setCondition s m args below meth c 6 a cy D (vx_MQ below (fun _ => zQo a cy D s.heap.size (zPI P)) (zXC a cy D s.heap.size X) args s 2 12 (zA a s.heap.size)) 2 12 s9 15 [(0, .ref (a k0)), (1, .int (zI x1)), (2, .int (zI x2)), (3, .int (zI x3)), (4, .ref (a k4))] [.ref q9]) H1 locs1 ls hO hP hS hL
      refine zr_astore C (L' := [(5, .ref q9), (0, .ref (a k0)), (1, .int (zI x1)), (2, .int (zI x2)), (3, .int (zI x3)), (4, .ref (a k4))]) dL_setCondition_15 (by decide) rfl rfl ?_
      refine zr_iconst C dL_setCondition_17 rfl ?_
      exact zr_widen (Nat.le_of_ble_eq_true rfl) (Nat.le_of_ble_eq_true rfl) (zr_vx (zr_iret C hr dL_setCondition_18 ⟨_, rfl, hq⟩))
    · have hq := hx.2.1 rfl
      refine zr_catch C ht [⟨0, 12, 15, 21⟩] ⟨0, 12, 19, 13⟩ [] rfl 1 (by decide) (List.forall_mem_cons.mpr ⟨⟨by decide, 0, by decide, by decide, lL_setCondition_0⟩, (fun _ h => nomatch h)⟩) rfl (by decide) lL_setCondition_1 h1 h2 h3 ?_
      refine (?_ : zX p l e rL_setCondition s m args below meth c 6 a cy D (vx_MQ below (fun _ => zQo a cy D s.heap.size (zPI P)) (zXC a cy D s.heap.size X) args s 2 12 (zA a s.heap.size)) 2 12 s9 19 [(0, .ref (a k0)), (1, .int (zI x1)), (2, .int (zI x2)), (3, .int (zI x3)), (4, .ref (a k4))] [.ref q9]) H1 locs1 ls hO hP hS hL
      refine zr_astore C (L' := [(5, .ref q9), (0, .ref (a k0)), (1, .int (zI x1)), (2, .int (zI x2)), (3, .int (zI x3)), (4, .ref (a k4))]) dL_setCondition_19 (by decide) rfl rfl ?_
      refine zr_iconst C dL_setCondition_21 rfl ?_
      exact zr_widen (Nat.le_of_ble_eq_true rfl) (Nat.le_of_ble_eq_true rfl) (zr_vx (zr_iret C hr dL_setCondition_22 ⟨_, rfl, hq⟩))
    · exact (hx.2.2.1 rfl).elim
    · exact (hx.2.2.2 rfl).elim
  · obtain ⟨r1, rfl, hq⟩ := hv
    obtain ⟨h0, hq⟩ := hq
    refine zr_i2l C dL_setCondition_10 h0 rfl ?_
    obtain ⟨h0, hq⟩ := hq
    refine zr_last C hk4 (by decide) h0 dL_setCondition_11 rfl (fun s2 es2 => ?_)
    have hq := hq s2 es2
    refine zr_goto C (tgt := 23) dL_setCondition_12 (by decide) ?_
    refine zr_iconst C dL_setCondition_23 rfl ?_
    exact zr_widen (Nat.le_of_ble_eq_true rfl) (Nat.le_of_ble_eq_true rfl) (zr_vx (zr_iret C hr dL_setCondition_24 ⟨_, rfl, hq⟩)))
/-! InflectionGuesserLaw.fulfills(LInflectionGuesser;I[J)I -/
set_option maxRecDepth 20000 in
theorem ggL_fulfills_X6_fulfills : GoodIn wsL_fulfills wsX6_fulfills := goodIn_ca (goodIn_r _ [6, 7, 8, 9, 10, 11, 5, 12, 13, 14, 15, 16, 17, 18, 19, 20, 21, 22, 23, 24, 25, 26, 27, 28, 29, 30, 31, 32, 33, 34, 35, 36, 37, 38, 39, 40, 41, 42, 43, 44, 45, 46, 47, 48, 49, 50, 51, 52, 53, 54, 55, 56, 57, 58, 59, 60, 61, 62, 63, 64, 65, 66, 67, 68, 69, 70] (by decide +kernel) (by decide +kernel)) (goodIn_sub (fun _ h => List.mem_cons_of_mem _ (List.mem_append_right _ h)) (by decide +kernel))
set_option maxRecDepth 20000 in
theorem gL_fulfills_X6_fulfills : GoodIn wsL_fulfills (wsV RL 46 RX6 yX6_fulfills wsX6_fulfills) := goodIn_app (goodIn_of _ (by decide +kernel)) ggL_fulfills_X6_fulfills
theorem dL_fulfills_0 : decode cL_fulfills 0 = .ok (.aload_n 2, 1) := by decide +kernel
theorem dL_fulfills_1 : decode cL_fulfills 1 = .ok (.iconst 0, 1) := by decide +kernel
theorem dL_fulfills_2 : decode cL_fulfills 2 = .ok (.aload_n 0, 1) := by decide +kernel
theorem dL_fulfills_3 : decode cL_fulfills 3 = .ok (.iload_n 1, 1) := by decide +kernel
theorem dL_fulfills_4 : decode cL_fulfills 4 = .ok (.invokevirtual 46, 3) := by decide +kernel
theorem dL_fulfills_7 : decode cL_fulfills 7 = .ok (.ifCond .eq 7, 3) := by decide +kernel
theorem dL_fulfills_10 : decode cL_fulfills 10 = .ok (.lconst 1, 1) := by decide +kernel
theorem dL_fulfills_11 : decode cL_fulfills 11 = .ok (.goto 4, 3) := by decide +kernel
theorem dL_fulfills_14 : decode cL_fulfills 14 = .ok (.lconst 0, 1) := by decide +kernel
theorem dL_fulfills_15 : decode cL_fulfills 15 = .ok (.lastore, 1) := by decide +kernel
theorem dL_fulfills_16 : decode cL_fulfills 16 = .ok (.goto 6, 3) := by decide +kernel
theorem dL_fulfills_19 : decode cL_fulfills 19 = .ok (.astore_n 3, 1) := by decide +kernel
theorem dL_fulfills_20 : decode cL_fulfills 20 = .ok (.iconst 1, 1) := by decide +kernel
theorem dL_fulfills_21 : decode cL_fulfills 21 = .ok (.ireturn, 1) := by decide +kernel
theorem dL_fulfills_22 : decode cL_fulfills 22 = .ok (.iconst 0, 1) := by decide +kernel
theorem dL_fulfills_23 : decode cL_fulfills 23 = .ok (.ireturn, 1) := by decide +kernel
def rL_fulfills : Room := { frames := 8, cells := 1, slots := 6, locals := 132 }
theorem lL_fulfills_0 : Cond.classLink RL 21 (zEx 0) ∈ wsL_fulfills := by decide +kernel
set_option maxRecDepth 100000 in
set_option maxHeartbeats 4000000 in
theorem tL_fulfills_15 {p : Program} {l : Launch} {e : Env} {s : State} {m : MethodId} {args : Array Value} {below : List Frame} {meth : Method} {c : Code} {a : Nat → Nat} {cy : Nat → ClassId} {D : va_G} {tV : Nat} {sa : Nat → Nat} (C : zC p l s m args meth c cL_fulfills 4 wsL_fulfills RL a cy D tV sa) (hr : meth.sig.returnType = (some .int)) (ht : c.exceptionTable.toList = tableOf [(0, 16, 19, 21)]) (hl : l.stackTraces = false) {k0 : Nat} {k2 : Nat} (hk0 : zk k0 = 5) (hk2 : zk k2 = 9) {P : Int → Sto → Prop} {X : Nat → Sto → Prop} : ∀ (y0 y1 : Int) (σ : Sto), vL_fulfills_15 k0 k2 P y0 y1 σ → zX p l e rL_fulfills s m args below meth c 4 a cy D (vx_MQ below (fun _ => zQo a cy D s.heap.size (zPI P)) (zXC a cy D s.heap.size X) args s 1 6 (zA a s.heap.size)) 1 6 σ 15 [] [.long (zJ y0), .int (zI y1), .ref (a k2)] := by
  intro y0 y1 σ hq
  unfold vL_fulfills_15 at hq
  obtain ⟨h0, h1, hq⟩ := hq
  refine zr_last C hk2 h0 h1 dL_fulfills_15 rfl (fun s2 es2 => ?_)
  have hq := hq s2 es2
  refine zr_goto C (tgt := 22) dL_fulfills_16 (by decide) ?_
  refine zr_iconst C dL_fulfills_22 rfl ?_
  exact zr_widen (Nat.le_of_ble_eq_true rfl) (Nat.le_of_ble_eq_true rfl) (zr_vx (zr_iret C hr dL_fulfills_23 ⟨_, rfl, hq⟩))
set_option maxRecDepth 100000 in
set_option maxHeartbeats 4000000 in
theorem mL_fulfills {l : Launch} {a : Nat → Nat} {cy : Nat → ClassId} {D : va_G} {tV : Nat} {sa : Nat → Nat} (hl : l.stackTraces = false) {P : Int → Sto → Prop} {X : Nat → Sto → Prop} {σ : Sto} {k0 : Nat} {x1 : Int} {k2 : Nat} (hk0 : zk k0 = 5) (hk2 : zk k2 = 9) (hq : vL_fulfills k0 x1 k2 P σ) : zMX l yL_fulfills wsL_fulfills rL_fulfills a cy D tV sa [.ref (a k0), .int (zI x1), .ref (a k2)] σ (zPI P) X 1 6 :=
  zMXH_of (cc := cL_fulfills) (maxL := 4) (ret := (some .int)) (hh := [(0, 16, 19, 21)]) (by decide) rfl (Nat.le_of_ble_eq_true rfl) (L0 := [(0, .ref (a k0)), (1, .int (zI x1)), (2, .ref (a k2))]) rfl (fun p e s m args below meth c C hr ht => by
  unfold vL_fulfills at hq
  refine zr_aload_n C dL_fulfills_0 rfl (k := 2) rfl rfl ?_
  refine zr_iconst C dL_fulfills_1 rfl ?_
  refine zr_aload_n C dL_fulfills_2 rfl (k := 0) rfl rfl ?_
  refine zr_iload_n C dL_fulfills_3 rfl (k := 1) rfl rfl ?_
  refine zr_xcall (zrunVX C (st := [.int (zI 0), .ref (a k2)]) (mX6_fulfills hl hk0 hq) (cwV 1 C.2.2.2.2.1 gL_fulfills_X6_fulfills rfl rfl rfl (by decide +kernel) ⟨Nat.le_of_ble_eq_true rfl, Nat.le_of_ble_eq_true rfl⟩) (zE_5 hk0) (zk_lt hk0 (by decide)) (T := TX6) (N := 8) rfl rfl rfl (Nat.le_of_ble_eq_true rfl) dL_fulfills_4 ⟨(Nat.le_of_ble_eq_true rfl), (Nat.le_of_ble_eq_true rfl)⟩) rfl (fun i s9 H1 locs1 ls ce q9 hi hx hO hP hS hL h1 h2 h3 => ?_) (fun v s1 hv => ?_)
  · rcases (show i = 0 ∨ i = 1 ∨ i = 2 ∨ i = 3 by omega) with rfl | rfl | rfl | rfl
    · have hq := hx.1 rfl
      refine zr_catch C ht [] ⟨0, 16, 19, 21⟩ [] rfl 0 (by decide) (fun _ h => nomatch h) rfl (by decide) lL_fulfills_0 h1 h2 h3 ?_
      refine (?_ : zX p l e rL_fulfills s m args below meth c 4 a cy D (vx_MQ below (fun _ => zQo a cy D s.heap.size (zPI P)) (zXC a cy D s.heap.size X) args s 1 6 (zA a s.heap.size)) 1 6 s9 19 [(0, .ref (a k0)), (1, .int (zI x1)), (2, .ref (a k2))] [.ref q9]) H1 locs1 ls hO hP hS hL
      refine zr_astore_n C (L' := [(3, .ref q9), (0, .ref (a k0)), (1, .int (zI x1)), (2, .ref (a k2))]) dL_fulfills_19 rfl (by decide) rfl rfl ?_
      refine zr_iconst C dL_fulfills_20 rfl ?_
      exact zr_widen (Nat.le_of_ble_eq_true rfl) (Nat.le_of_ble_eq_true rfl) (zr_vx (zr_iret C hr dL_fulfills_21 ⟨_, rfl, hq⟩))
    · exact (hx.2.1 rfl).elim
    · exact (hx.2.2.1 rfl).elim
    · exact (hx.2.2.2 rfl).elim
  · obtain ⟨r1, rfl, hq⟩ := hv
    obtain ⟨h0, hq⟩ := hq
    refine zr_if_eq C (tgt := 14) dL_fulfills_7 (by decide) h0 rfl (fun z => ?_) (fun z => ?_)
    · have hq := hq.1 z
      refine zr_lconst C (x := 0) dL_fulfills_14 rfl rfl ?_
      exact zr_widen (Nat.le_of_ble_eq_true rfl) (Nat.le_of_ble_eq_true rfl) <| zr_sub C [] rfl (tL_fulfills_15 C hr ht hl hk0 hk2 _ _ _ hq)
    · have hq := hq.2 z
      refine zr_lconst C (x := 1) dL_fulfills_10 rfl rfl ?_
      refine zr_goto C (tgt := 15) dL_fulfills_11 (by decide) ?_
      exact zr_widen (Nat.le_of_ble_eq_true rfl) (Nat.le_of_ble_eq_true rfl) <| zr_sub C [] rfl (tL_fulfills_15 C hr ht hl hk0 hk2 _ _ _ hq))
/-! InflectionGuesserLaw.inflect(LInflectionGuesser;II[J)I -/
set_option maxRecDepth 20000 in
theorem ggL_inflect_X6_inflect : GoodIn wsL_inflect wsX6_inflect := goodIn_ca (goodIn_ca (goodIn_ca (goodIn_r _ [8, 9, 10, 11, 12, 13, 14, 15, 16, 7, 17, 18, 19, 20, 21, 22, 23, 24, 25, 26, 27, 28, 29, 30, 31, 32, 33, 34, 35, 36, 37, 38, 39, 40, 41, 42, 43, 44, 45, 46, 47, 48, 49, 50, 51, 52, 53, 54, 55, 56, 57, 58, 59, 60, 61, 62, 63, 64, 65, 66, 67, 68, 69, 70, 71, 72, 73, 74, 75, 76, 77, 78, 79, 80, 81, 82, 83, 84, 85, 86, 87, 88, 89, 90, 91, 92, 93, 94, 95, 96, 97, 98, 99, 100, 101, 102, 103, 104, 105, 106, 107, 108, 109, 110, 111, 112, 113] (by decide +kernel) (by decide +kernel)) (goodIn_sub (fun _ h => List.mem_cons_of_mem _ (List.mem_append_left _ (List.mem_append_left _ (List.mem_append_right _ h)))) (by decide +kernel))) (goodIn_sub (fun _ h => List.mem_cons_of_mem _ (List.mem_append_left _ (List.mem_append_right _ h))) (by decide +kernel))) (goodIn_sub (fun _ h => List.mem_cons_of_mem _ (List.mem_append_right _ h)) (by decide +kernel))
set_option maxRecDepth 20000 in
theorem gL_inflect_X6_inflect : GoodIn wsL_inflect (wsV RL 50 RX6 yX6_inflect wsX6_inflect) := goodIn_app (goodIn_of _ (by decide +kernel)) ggL_inflect_X6_inflect
theorem dL_inflect_0 : decode cL_inflect 0 = .ok (.aload_n 3, 1) := by decide +kernel
theorem dL_inflect_1 : decode cL_inflect 1 = .ok (.iconst 0, 1) := by decide +kernel
theorem dL_inflect_2 : decode cL_inflect 2 = .ok (.aload_n 0, 1) := by decide +kernel
theorem dL_inflect_3 : decode cL_inflect 3 = .ok (.iload_n 1, 1) := by decide +kernel
theorem dL_inflect_4 : decode cL_inflect 4 = .ok (.iload_n 2, 1) := by decide +kernel
theorem dL_inflect_5 : decode cL_inflect 5 = .ok (.invokevirtual 50, 3) := by decide +kernel
theorem dL_inflect_8 : decode cL_inflect 8 = .ok (.i2l, 1) := by decide +kernel
theorem dL_inflect_9 : decode cL_inflect 9 = .ok (.lastore, 1) := by decide +kernel
theorem dL_inflect_10 : decode cL_inflect 10 = .ok (.goto 15, 3) := by decide +kernel
theorem dL_inflect_13 : decode cL_inflect 13 = .ok (.astore 4, 2) := by decide +kernel
theorem dL_inflect_15 : decode cL_inflect 15 = .ok (.iconst 1, 1) := by decide +kernel
theorem dL_inflect_16 : decode cL_inflect 16 = .ok (.ireturn, 1) := by decide +kernel
theorem dL_inflect_17 : decode cL_inflect 17 = .ok (.astore 4, 2) := by decide +kernel
theorem dL_inflect_19 : decode cL_inflect 19 = .ok (.iconst 2, 1) := by decide +kernel
theorem dL_inflect_20 : decode cL_inflect 20 = .ok (.ireturn, 1) := by decide +kernel
theorem dL_inflect_21 : decode cL_inflect 21 = .ok (.astore 4, 2) := by decide +kernel
theorem dL_inflect_23 : decode cL_inflect 23 = .ok (.iconst 3, 1) := by decide +kernel
theorem dL_inflect_24 : decode cL_inflect 24 = .ok (.ireturn, 1) := by decide +kernel
theorem dL_inflect_25 : decode cL_inflect 25 = .ok (.iconst 0, 1) := by decide +kernel
theorem dL_inflect_26 : decode cL_inflect 26 = .ok (.ireturn, 1) := by decide +kernel
def rL_inflect : Room := { frames := 9, cells := 3, slots := 18, locals := 156 }
theorem lL_inflect_0 : Cond.classLink RL 21 (zEx 0) ∈ wsL_inflect := by decide +kernel
theorem lL_inflect_2 : Cond.classLink RL 15 (zEx 2) ∈ wsL_inflect := by decide +kernel
theorem lL_inflect_3 : Cond.classLink RL 35 (zEx 3) ∈ wsL_inflect := by decide +kernel
set_option maxRecDepth 100000 in
set_option maxHeartbeats 4000000 in
theorem mL_inflect {l : Launch} {a : Nat → Nat} {cy : Nat → ClassId} {D : va_G} {tV : Nat} {sa : Nat → Nat} (hl : l.stackTraces = false) {P : Int → Sto → Prop} {X : Nat → Sto → Prop} {σ : Sto} {k0 : Nat} {x1 : Int} {x2 : Int} {k3 : Nat} (hk0 : zk k0 = 5) (hk3 : zk k3 = 9) (hq : vL_inflect k0 x1 x2 k3 P σ) : zMX l yL_inflect wsL_inflect rL_inflect a cy D tV sa [.ref (a k0), .int (zI x1), .int (zI x2), .ref (a k3)] σ (zPI P) X 3 18 :=
  zMXH_of (cc := cL_inflect) (maxL := 5) (ret := (some .int)) (hh := [(0, 10, 13, 21), (0, 10, 17, 15), (0, 10, 21, 35)]) (by decide) rfl (Nat.le_of_ble_eq_true rfl) (L0 := [(0, .ref (a k0)), (1, .int (zI x1)), (2, .int (zI x2)), (3, .ref (a k3))]) rfl (fun p e s m args below meth c C hr ht => by
  unfold vL_inflect at hq
  refine zr_aload_n C dL_inflect_0 rfl (k := 3) rfl rfl ?_
  refine zr_iconst C dL_inflect_1 rfl ?_
  refine zr_aload_n C dL_inflect_2 rfl (k := 0) rfl rfl ?_
  refine zr_iload_n C dL_inflect_3 rfl (k := 1) rfl rfl ?_
  refine zr_iload_n C dL_inflect_4 rfl (k := 2) rfl rfl ?_
  refine zr_xcall (zrunVX C (st := [.int (zI 0), .ref (a k3)]) (mX6_inflect hl hk0 hq) (cwV 2 C.2.2.2.2.1 gL_inflect_X6_inflect rfl rfl rfl (by decide +kernel) ⟨Nat.le_of_ble_eq_true rfl, Nat.le_of_ble_eq_true rfl⟩) (zE_5 hk0) (zk_lt hk0 (by decide)) (T := TX6) (N := 8) rfl rfl rfl (Nat.le_of_ble_eq_true rfl) dL_inflect_5 ⟨(Nat.le_of_ble_eq_true rfl), (Nat.le_of_ble_eq_true rfl)⟩) rfl (fun i s9 H1 locs1 ls ce q9 hi hx hO hP hS hL h1 h2 h3 => ?_) (fun v s1 hv => ?_)
  · rcases (show i = 0 ∨ i = 1 ∨ i = 2 ∨ i = 3 by omega) with rfl | rfl | rfl | rfl
    · have hq := hx.1 rfl
      refine zr_catch C ht [] ⟨0, 10, 13, 21⟩ [⟨0, 10, 17, 15⟩, ⟨0, 10, 21, 35⟩] rfl 0 (by decide) (fun _ h => nomatch h) rfl (by decide) lL_inflect_0 h1 h2 h3 ?_
      refine (?_ : zX p l e rL_inflect s m args below meth c 5 a cy D (vx_MQ below (fun _ => zQo a cy D s.heap.size (zPI P)) (zXC a cy D s.heap.size X) args s 3 18 (zA a s.heap.size)) 3 18 s9 13 [(0, .ref (a k0)), (1, .int (zI x1)), (2, .int (zI x2)), (3, .ref (a k3))] [.ref q9]) H1 locs1 ls hO hP hS hL
      refine zr_astore C (L' := [(4, .ref q9), (0, .ref (a k0)), (1, .int (zI x1)), (2, .int (zI x2)), (3, .ref (a k3))]) dL_inflect_13 (by decide) rfl rfl ?_
      refine zr_iconst C dL_inflect_15 rfl ?_
      exact zr_widen (Nat.le_of_ble_eq_true rfl) (Nat.le_of_ble_eq_true rfl) (zr_vx (zr_iret C hr dL_inflect_16 ⟨_, rfl, hq⟩))
    · exact (hx.2.1 rfl).elim
    · have hq := hx.2.2.1 rfl
      refine zr_catch C ht [⟨0, 10, 13, 21⟩] ⟨0, 10, 17, 15⟩ [⟨0, 10, 21, 35⟩] rfl 2 (by decide) (List.forall_mem_cons.mpr ⟨⟨by decide, 0, by decide, by decide, lL_inflect_0⟩, (fun _ h => nomatch h)⟩) rfl (by decide) lL_inflect_2 h1 h2 h3 ?_
      refine (?_ : zX p l e rL_inflect s m args below meth c 5 a cy D (vx_MQ below (fun _ => zQo a cy D s.heap.size (zPI P)) (zXC a cy D s.heap.size X) args s 3 18 (zA a s.heap.size)) 3 18 s9 17 [(0, .ref (a k0)), (1, .int (zI x1)), (2, .int (zI x2)), (3, .ref (a k3))] [.ref q9]) H1 locs1 ls hO hP hS hL
      refine zr_astore C (L' := [(4, .ref q9), (0, .ref (a k0)), (1, .int (zI x1)), (2, .int (zI x2)), (3, .ref (a k3))]) dL_inflect_17 (by decide) rfl rfl ?_
      refine zr_iconst C dL_inflect_19 rfl ?_
      exact zr_widen (Nat.le_of_ble_eq_true rfl) (Nat.le_of_ble_eq_true rfl) (zr_vx (zr_iret C hr dL_inflect_20 ⟨_, rfl, hq⟩))
    · have hq := hx.2.2.2 rfl
      refine zr_catch C ht [⟨0, 10, 13, 21⟩, ⟨0, 10, 17, 15⟩] ⟨0, 10, 21, 35⟩ [] rfl 3 (by decide) (List.forall_mem_cons.mpr ⟨⟨by decide, 0, by decide, by decide, lL_inflect_0⟩, (List.forall_mem_cons.mpr ⟨⟨by decide, 2, by decide, by decide, lL_inflect_2⟩, (fun _ h => nomatch h)⟩)⟩) rfl (by decide) lL_inflect_3 h1 h2 h3 ?_
      refine (?_ : zX p l e rL_inflect s m args below meth c 5 a cy D (vx_MQ below (fun _ => zQo a cy D s.heap.size (zPI P)) (zXC a cy D s.heap.size X) args s 3 18 (zA a s.heap.size)) 3 18 s9 21 [(0, .ref (a k0)), (1, .int (zI x1)), (2, .int (zI x2)), (3, .ref (a k3))] [.ref q9]) H1 locs1 ls hO hP hS hL
      refine zr_astore C (L' := [(4, .ref q9), (0, .ref (a k0)), (1, .int (zI x1)), (2, .int (zI x2)), (3, .ref (a k3))]) dL_inflect_21 (by decide) rfl rfl ?_
      refine zr_iconst C dL_inflect_23 rfl ?_
      exact zr_widen (Nat.le_of_ble_eq_true rfl) (Nat.le_of_ble_eq_true rfl) (zr_vx (zr_iret C hr dL_inflect_24 ⟨_, rfl, hq⟩))
  · obtain ⟨r1, rfl, hq⟩ := hv
    obtain ⟨h0, hq⟩ := hq
    refine zr_i2l C dL_inflect_8 h0 rfl ?_
    obtain ⟨h0, hq⟩ := hq
    refine zr_last C hk3 (by decide) h0 dL_inflect_9 rfl (fun s2 es2 => ?_)
    have hq := hq s2 es2
    refine zr_goto C (tgt := 25) dL_inflect_10 (by decide) ?_
    refine zr_iconst C dL_inflect_25 rfl ?_
    exact zr_widen (Nat.le_of_ble_eq_true rfl) (Nat.le_of_ble_eq_true rfl) (zr_vx (zr_iret C hr dL_inflect_26 ⟨_, rfl, hq⟩)))
/-! InflectionGuesserLaw.addWord(LInflectionGuesser;[J)I -/
set_option maxRecDepth 20000 in
theorem ggL_addWord_X6_addWord : GoodIn wsL_addWord wsX6_addWord := goodIn_ca (goodIn_ca (goodIn_r _ [7, 8, 9, 10, 11, 12, 13, 14, 15, 16, 17, 18, 19, 20, 21, 22, 23, 24, 25, 26, 27, 28, 29, 30, 31, 32, 33, 34, 35, 36, 37, 38, 39, 40, 41, 42, 43, 44, 45, 46, 47, 48, 49, 50, 51, 52, 53, 54, 55, 56, 57, 58, 59, 60, 61, 62, 63, 64, 65, 66, 67, 68, 69, 70, 71, 72, 73, 74, 75, 76, 77, 78, 79, 80, 81, 82, 83, 84, 85, 86, 87, 88, 89, 90, 91, 92, 93, 94, 95, 96, 97, 98, 99, 100, 101, 102, 103, 104, 105, 106, 107, 108, 109, 110, 111, 112, 113, 114] (by decide +kernel) (by decide +kernel)) (goodIn_sub (fun _ h => List.mem_cons_of_mem _ (List.mem_append_left _ (List.mem_append_right _ h))) (by decide +kernel))) (goodIn_sub (fun _ h => List.mem_cons_of_mem _ (List.mem_append_right _ h)) (by decide +kernel))
set_option maxRecDepth 20000 in
theorem gL_addWord_X6_addWord : GoodIn wsL_addWord (wsV RL 54 RX6 yX6_addWord wsX6_addWord) := goodIn_app (goodIn_of _ (by decide +kernel)) ggL_addWord_X6_addWord
theorem dL_addWord_0 : decode cL_addWord 0 = .ok (.aload_n 1, 1) := by decide +kernel
theorem dL_addWord_1 : decode cL_addWord 1 = .ok (.iconst 0, 1) := by decide +kernel
theorem dL_addWord_2 : decode cL_addWord 2 = .ok (.aload_n 0, 1) := by decide +kernel
theorem dL_addWord_3 : decode cL_addWord 3 = .ok (.invokevirtual 54, 3) := by decide +kernel
theorem dL_addWord_6 : decode cL_addWord 6 = .ok (.i2l, 1) := by decide +kernel
theorem dL_addWord_7 : decode cL_addWord 7 = .ok (.lastore, 1) := by decide +kernel
theorem dL_addWord_8 : decode cL_addWord 8 = .ok (.goto 9, 3) := by decide +kernel
theorem dL_addWord_11 : decode cL_addWord 11 = .ok (.astore_n 2, 1) := by decide +kernel
theorem dL_addWord_12 : decode cL_addWord 12 = .ok (.iconst 1, 1) := by decide +kernel
theorem dL_addWord_13 : decode cL_addWord 13 = .ok (.ireturn, 1) := by decide +kernel
theorem dL_addWord_14 : decode cL_addWord 14 = .ok (.astore_n 2, 1) := by decide +kernel
theorem dL_addWord_15 : decode cL_addWord 15 = .ok (.iconst 2, 1) := by decide +kernel
theorem dL_addWord_16 : decode cL_addWord 16 = .ok (.ireturn, 1) := by decide +kernel
theorem dL_addWord_17 : decode cL_addWord 17 = .ok (.iconst 0, 1) := by decide +kernel
theorem dL_addWord_18 : decode cL_addWord 18 = .ok (.ireturn, 1) := by decide +kernel
def rL_addWord : Room := { frames := 7, cells := 1, slots := 6, locals := 124 }
theorem lL_addWord_1 : Cond.classLink RL 13 (zEx 1) ∈ wsL_addWord := by decide +kernel
theorem lL_addWord_2 : Cond.classLink RL 15 (zEx 2) ∈ wsL_addWord := by decide +kernel
set_option maxRecDepth 100000 in
set_option maxHeartbeats 4000000 in
theorem mL_addWord {l : Launch} {a : Nat → Nat} {cy : Nat → ClassId} {D : va_G} {tV : Nat} {sa : Nat → Nat} (hl : l.stackTraces = false) {P : Int → Sto → Prop} {X : Nat → Sto → Prop} {σ : Sto} {k0 : Nat} {k1 : Nat} (hk0 : zk k0 = 5) (hk1 : zk k1 = 9) (hq : vL_addWord k0 k1 P σ) : zMX l yL_addWord wsL_addWord rL_addWord a cy D tV sa [.ref (a k0), .ref (a k1)] σ (zPI P) X 1 6 :=
  zMXH_of (cc := cL_addWord) (maxL := 3) (ret := (some .int)) (hh := [(0, 8, 11, 13), (0, 8, 14, 15)]) (by decide) rfl (Nat.le_of_ble_eq_true rfl) (L0 := [(0, .ref (a k0)), (1, .ref (a k1))]) rfl (fun p e s m args below meth c C hr ht => by
  unfold vL_addWord at hq
  refine zr_aload_n C dL_addWord_0 rfl (k := 1) rfl rfl ?_
  refine zr_iconst C dL_addWord_1 rfl ?_
  refine zr_aload_n C dL_addWord_2 rfl (k := 0) rfl rfl ?_
  refine zr_xcall (zrunVX C (st := [.int (zI 0), .ref (a k1)]) (mX6_addWord hl hk0 hq) (cwV 0 C.2.2.2.2.1 gL_addWord_X6_addWord rfl rfl rfl (by decide +kernel) ⟨Nat.le_of_ble_eq_true rfl, Nat.le_of_ble_eq_true rfl⟩) (zE_5 hk0) (zk_lt hk0 (by decide)) (T := TX6) (N := 8) rfl rfl rfl (Nat.le_of_ble_eq_true rfl) dL_addWord_3 ⟨(Nat.le_of_ble_eq_true rfl), (Nat.le_of_ble_eq_true rfl)⟩) rfl (fun i s9 H1 locs1 ls ce q9 hi hx hO hP hS hL h1 h2 h3 => ?_) (fun v s1 hv => ?_)
  · rcases (show i = 0 ∨ i = 1 ∨ i = 2 ∨ i = 3 by omega) with rfl | rfl | rfl | rfl
    · exact (hx.1 rfl).elim
    · have hq := hx.2.1 rfl
      refine zr_catch C ht [] ⟨0, 8, 11, 13⟩ [⟨0, 8, 14, 15⟩] rfl 1 (by decide) (fun _ h => nomatch h) rfl (by decide) lL_addWord_1 h1 h2 h3 ?_
      refine (?_ : zX p l e rL_addWord s m args below meth c 3 a cy D (vx_MQ below (fun _ => zQo a cy D s.heap.size (zPI P)) (zXC a cy D s.heap.size X) args s 1 6 (zA a s.heap.size)) 1 6 s9 11 [(0, .ref (a k0)), (1, .ref (a k1))] [.ref q9]) H1 locs1 ls hO hP hS hL
      refine zr_astore_n C (L' := [(2, .ref q9), (0, .ref (a k0)), (1, .ref (a k1))]) dL_addWord_11 rfl (by decide) rfl rfl ?_
      refine zr_iconst C dL_addWord_12 rfl ?_
      exact zr_widen (Nat.le_of_ble_eq_true rfl) (Nat.le_of_ble_eq_true rfl) (zr_vx (zr_iret C hr dL_addWord_13 ⟨_, rfl, hq⟩))
    · have hq := hx.2.2.1 rfl
      refine zr_catch C ht [⟨0, 8, 11, 13⟩] ⟨0, 8, 14, 15⟩ [] rfl 2 (by decide) (List.forall_mem_cons.mpr ⟨⟨by decide, 1, by decide, by decide, lL_addWord_1⟩, (fun _ h => nomatch h)⟩) rfl (by decide) lL_addWord_2 h1 h2 h3 ?_
      refine (?_ : zX p l e rL_addWord s m args below meth c 3 a cy D (vx_MQ below (fun _ => zQo a cy D s.heap.size (zPI P)) (zXC a cy D s.heap.size X) args s 1 6 (zA a s.heap.size)) 1 6 s9 14 [(0, .ref (a k0)), (1, .ref (a k1))] [.ref q9]) H1 locs1 ls hO hP hS hL
      refine zr_astore_n C (L' := [(2, .ref q9), (0, .ref (a k0)), (1, .ref (a k1))]) dL_addWord_14 rfl (by decide) rfl rfl ?_
      refine zr_iconst C dL_addWord_15 rfl ?_
      exact zr_widen (Nat.le_of_ble_eq_true rfl) (Nat.le_of_ble_eq_true rfl) (zr_vx (zr_iret C hr dL_addWord_16 ⟨_, rfl, hq⟩))
    · exact (hx.2.2.2 rfl).elim
  · obtain ⟨r1, rfl, hq⟩ := hv
    obtain ⟨h0, hq⟩ := hq
    refine zr_i2l C dL_addWord_6 h0 rfl ?_
    obtain ⟨h0, hq⟩ := hq
    refine zr_last C hk1 (by decide) h0 dL_addWord_7 rfl (fun s2 es2 => ?_)
    have hq := hq s2 es2
    refine zr_goto C (tgt := 17) dL_addWord_8 (by decide) ?_
    refine zr_iconst C dL_addWord_17 rfl ?_
    exact zr_widen (Nat.le_of_ble_eq_true rfl) (Nat.le_of_ble_eq_true rfl) (zr_vx (zr_iret C hr dL_addWord_18 ⟨_, rfl, hq⟩)))
/-! InflectionGuesserLaw.removeWord(LInflectionGuesser;I[J)I -/
set_option maxRecDepth 20000 in
theorem ggL_removeWord_X6_removeWord : GoodIn wsL_removeWord wsX6_removeWord := goodIn_ca (goodIn_r _ [6, 7, 8, 9, 10, 11, 12, 5, 13, 14, 15, 16, 17, 18, 19, 20, 21, 22, 23, 24, 25, 26, 27, 28, 29, 30, 31, 32, 33, 34, 35, 36, 37, 38, 39, 40, 41, 42, 43, 44, 45, 46, 47, 48, 49, 50, 51, 52, 53, 54, 55, 56, 57, 58, 59, 60, 61, 62, 63, 64, 65, 66, 67, 68, 69, 70, 71, 72, 73, 74, 75, 76, 77, 78, 79, 80, 81, 82, 83, 84, 85, 86, 87, 88, 89, 90, 91, 92, 93, 94, 95, 96, 97, 98] (by decide +kernel) (by decide +kernel)) (goodIn_sub (fun _ h => List.mem_cons_of_mem _ (List.mem_append_right _ h)) (by decide +kernel))
set_option maxRecDepth 20000 in
theorem gL_removeWord_X6_removeWord : GoodIn wsL_removeWord (wsV RL 57 RX6 yX6_removeWord wsX6_removeWord) := goodIn_app (goodIn_of _ (by decide +kernel)) ggL_removeWord_X6_removeWord
theorem dL_removeWord_0 : decode cL_removeWord 0 = .ok (.aload_n 2, 1) := by decide +kernel
theorem dL_removeWord_1 : decode cL_removeWord 1 = .ok (.iconst 0, 1) := by decide +kernel
theorem dL_removeWord_2 : decode cL_removeWord 2 = .ok (.aload_n 0, 1) := by decide +kernel
theorem dL_removeWord_3 : decode cL_removeWord 3 = .ok (.iload_n 1, 1) := by decide +kernel
theorem dL_removeWord_4 : decode cL_removeWord 4 = .ok (.invokevirtual 57, 3) := by decide +kernel
theorem dL_removeWord_7 : decode cL_removeWord 7 = .ok (.i2l, 1) := by decide +kernel
theorem dL_removeWord_8 : decode cL_removeWord 8 = .ok (.lastore, 1) := by decide +kernel
theorem dL_removeWord_9 : decode cL_removeWord 9 = .ok (.goto 6, 3) := by decide +kernel
theorem dL_removeWord_12 : decode cL_removeWord 12 = .ok (.astore_n 3, 1) := by decide +kernel
theorem dL_removeWord_13 : decode cL_removeWord 13 = .ok (.iconst 1, 1) := by decide +kernel
theorem dL_removeWord_14 : decode cL_removeWord 14 = .ok (.ireturn, 1) := by decide +kernel
theorem dL_removeWord_15 : decode cL_removeWord 15 = .ok (.iconst 0, 1) := by decide +kernel
theorem dL_removeWord_16 : decode cL_removeWord 16 = .ok (.ireturn, 1) := by decide +kernel
def rL_removeWord : Room := { frames := 8, cells := 1, slots := 6, locals := 132 }
theorem lL_removeWord_0 : Cond.classLink RL 21 (zEx 0) ∈ wsL_removeWord := by decide +kernel
set_option maxRecDepth 100000 in
set_option maxHeartbeats 4000000 in
theorem mL_removeWord {l : Launch} {a : Nat → Nat} {cy : Nat → ClassId} {D : va_G} {tV : Nat} {sa : Nat → Nat} (hl : l.stackTraces = false) {P : Int → Sto → Prop} {X : Nat → Sto → Prop} {σ : Sto} {k0 : Nat} {x1 : Int} {k2 : Nat} (hk0 : zk k0 = 5) (hk2 : zk k2 = 9) (hq : vL_removeWord k0 x1 k2 P σ) : zMX l yL_removeWord wsL_removeWord rL_removeWord a cy D tV sa [.ref (a k0), .int (zI x1), .ref (a k2)] σ (zPI P) X 1 6 :=
  zMXH_of (cc := cL_removeWord) (maxL := 4) (ret := (some .int)) (hh := [(0, 9, 12, 21)]) (by decide) rfl (Nat.le_of_ble_eq_true rfl) (L0 := [(0, .ref (a k0)), (1, .int (zI x1)), (2, .ref (a k2))]) rfl (fun p e s m args below meth c C hr ht => by
  unfold vL_removeWord at hq
  refine zr_aload_n C dL_removeWord_0 rfl (k := 2) rfl rfl ?_
  refine zr_iconst C dL_removeWord_1 rfl ?_
  refine zr_aload_n C dL_removeWord_2 rfl (k := 0) rfl rfl ?_
  refine zr_iload_n C dL_removeWord_3 rfl (k := 1) rfl rfl ?_
  refine zr_xcall (zrunVX C (st := [.int (zI 0), .ref (a k2)]) (mX6_removeWord hl hk0 hq) (cwV 1 C.2.2.2.2.1 gL_removeWord_X6_removeWord rfl rfl rfl (by decide +kernel) ⟨Nat.le_of_ble_eq_true rfl, Nat.le_of_ble_eq_true rfl⟩) (zE_5 hk0) (zk_lt hk0 (by decide)) (T := TX6) (N := 8) rfl rfl rfl (Nat.le_of_ble_eq_true rfl) dL_removeWord_4 ⟨(Nat.le_of_ble_eq_true rfl), (Nat.le_of_ble_eq_true rfl)⟩) rfl (fun i s9 H1 locs1 ls ce q9 hi hx hO hP hS hL h1 h2 h3 => ?_) (fun v s1 hv => ?_)
  · rcases (show i = 0 ∨ i = 1 ∨ i = 2 ∨ i = 3 by omega) with rfl | rfl | rfl | rfl
    · have hq := hx.1 rfl
      refine zr_catch C ht [] ⟨0, 9, 12, 21⟩ [] rfl 0 (by decide) (fun _ h => nomatch h) rfl (by decide) lL_removeWord_0 h1 h2 h3 ?_
      refine (?_ : zX p l e rL_removeWord s m args below meth c 4 a cy D (vx_MQ below (fun _ => zQo a cy D s.heap.size (zPI P)) (zXC a cy D s.heap.size X) args s 1 6 (zA a s.heap.size)) 1 6 s9 12 [(0, .ref (a k0)), (1, .int (zI x1)), (2, .ref (a k2))] [.ref q9]) H1 locs1 ls hO hP hS hL
      refine zr_astore_n C (L' := [(3, .ref q9), (0, .ref (a k0)), (1, .int (zI x1)), (2, .ref (a k2))]) dL_removeWord_12 rfl (by decide) rfl rfl ?_
      refine zr_iconst C dL_removeWord_13 rfl ?_
      exact zr_widen (Nat.le_of_ble_eq_true rfl) (Nat.le_of_ble_eq_true rfl) (zr_vx (zr_iret C hr dL_removeWord_14 ⟨_, rfl, hq⟩))
    · exact (hx.2.1 rfl).elim
    · exact (hx.2.2.1 rfl).elim
    · exact (hx.2.2.2 rfl).elim
  · obtain ⟨r1, rfl, hq⟩ := hv
    obtain ⟨h0, hq⟩ := hq
    refine zr_i2l C dL_removeWord_7 h0 rfl ?_
    obtain ⟨h0, hq⟩ := hq
    refine zr_last C hk2 (by decide) h0 dL_removeWord_8 rfl (fun s2 es2 => ?_)
    have hq := hq s2 es2
    refine zr_goto C (tgt := 15) dL_removeWord_9 (by decide) ?_
    refine zr_iconst C dL_removeWord_15 rfl ?_
    exact zr_widen (Nat.le_of_ble_eq_true rfl) (Nat.le_of_ble_eq_true rfl) (zr_vx (zr_iret C hr dL_removeWord_16 ⟨_, rfl, hq⟩)))
/-! InflectionGuesserLaw.wordLength(LInflectionGuesser;I[J)I -/
set_option maxRecDepth 20000 in
theorem ggL_wordLength_X6_wordLength : GoodIn wsL_wordLength wsX6_wordLength := goodIn_ca (goodIn_r _ [6, 7, 8, 9, 10, 5, 11, 12, 13, 14, 15, 16, 17, 18, 19, 20, 21, 22, 23, 24, 25, 26, 27, 28, 29, 30, 31, 32, 33, 34, 35, 36, 37, 38] (by decide +kernel) (by decide +kernel)) (goodIn_sub (fun _ h => List.mem_cons_of_mem _ (List.mem_append_right _ h)) (by decide +kernel))
set_option maxRecDepth 20000 in
theorem gL_wordLength_X6_wordLength : GoodIn wsL_wordLength (wsV RL 60 RX6 yX6_wordLength wsX6_wordLength) := goodIn_app (goodIn_of _ (by decide +kernel)) ggL_wordLength_X6_wordLength
theorem dL_wordLength_0 : decode cL_wordLength 0 = .ok (.aload_n 2, 1) := by decide +kernel
theorem dL_wordLength_1 : decode cL_wordLength 1 = .ok (.iconst 0, 1) := by decide +kernel
theorem dL_wordLength_2 : decode cL_wordLength 2 = .ok (.aload_n 0, 1) := by decide +kernel
theorem dL_wordLength_3 : decode cL_wordLength 3 = .ok (.iload_n 1, 1) := by decide +kernel
theorem dL_wordLength_4 : decode cL_wordLength 4 = .ok (.invokevirtual 60, 3) := by decide +kernel
theorem dL_wordLength_7 : decode cL_wordLength 7 = .ok (.i2l, 1) := by decide +kernel
theorem dL_wordLength_8 : decode cL_wordLength 8 = .ok (.lastore, 1) := by decide +kernel
theorem dL_wordLength_9 : decode cL_wordLength 9 = .ok (.goto 6, 3) := by decide +kernel
theorem dL_wordLength_12 : decode cL_wordLength 12 = .ok (.astore_n 3, 1) := by decide +kernel
theorem dL_wordLength_13 : decode cL_wordLength 13 = .ok (.iconst 1, 1) := by decide +kernel
theorem dL_wordLength_14 : decode cL_wordLength 14 = .ok (.ireturn, 1) := by decide +kernel
theorem dL_wordLength_15 : decode cL_wordLength 15 = .ok (.iconst 0, 1) := by decide +kernel
theorem dL_wordLength_16 : decode cL_wordLength 16 = .ok (.ireturn, 1) := by decide +kernel
def rL_wordLength : Room := { frames := 8, cells := 1, slots := 6, locals := 132 }
theorem lL_wordLength_0 : Cond.classLink RL 21 (zEx 0) ∈ wsL_wordLength := by decide +kernel
set_option maxRecDepth 100000 in
set_option maxHeartbeats 4000000 in
theorem mL_wordLength {l : Launch} {a : Nat → Nat} {cy : Nat → ClassId} {D : va_G} {tV : Nat} {sa : Nat → Nat} (hl : l.stackTraces = false) {P : Int → Sto → Prop} {X : Nat → Sto → Prop} {σ : Sto} {k0 : Nat} {x1 : Int} {k2 : Nat} (hk0 : zk k0 = 5) (hk2 : zk k2 = 9) (hq : vL_wordLength k0 x1 k2 P σ) : zMX l yL_wordLength wsL_wordLength rL_wordLength a cy D tV sa [.ref (a k0), .int (zI x1), .ref (a k2)] σ (zPI P) X 1 6 :=
  zMXH_of (cc := cL_wordLength) (maxL := 4) (ret := (some .int)) (hh := [(0, 9, 12, 21)]) (by decide) rfl (Nat.le_of_ble_eq_true rfl) (L0 := [(0, .ref (a k0)), (1, .int (zI x1)), (2, .ref (a k2))]) rfl (fun p e s m args below meth c C hr ht => by
  unfold vL_wordLength at hq
  refine zr_aload_n C dL_wordLength_0 rfl (k := 2) rfl rfl ?_
  refine zr_iconst C dL_wordLength_1 rfl ?_
  refine zr_aload_n C dL_wordLength_2 rfl (k := 0) rfl rfl ?_
  refine zr_iload_n C dL_wordLength_3 rfl (k := 1) rfl rfl ?_
  refine zr_xcall (zrunVX C (st := [.int (zI 0), .ref (a k2)]) (mX6_wordLength hl hk0 hq) (cwV 1 C.2.2.2.2.1 gL_wordLength_X6_wordLength rfl rfl rfl (by decide +kernel) ⟨Nat.le_of_ble_eq_true rfl, Nat.le_of_ble_eq_true rfl⟩) (zE_5 hk0) (zk_lt hk0 (by decide)) (T := TX6) (N := 8) rfl rfl rfl (Nat.le_of_ble_eq_true rfl) dL_wordLength_4 ⟨(Nat.le_of_ble_eq_true rfl), (Nat.le_of_ble_eq_true rfl)⟩) rfl (fun i s9 H1 locs1 ls ce q9 hi hx hO hP hS hL h1 h2 h3 => ?_) (fun v s1 hv => ?_)
  · rcases (show i = 0 ∨ i = 1 ∨ i = 2 ∨ i = 3 by omega) with rfl | rfl | rfl | rfl
    · have hq := hx.1 rfl
      refine zr_catch C ht [] ⟨0, 9, 12, 21⟩ [] rfl 0 (by decide) (fun _ h => nomatch h) rfl (by decide) lL_wordLength_0 h1 h2 h3 ?_
      refine (?_ : zX p l e rL_wordLength s m args below meth c 4 a cy D (vx_MQ below (fun _ => zQo a cy D s.heap.size (zPI P)) (zXC a cy D s.heap.size X) args s 1 6 (zA a s.heap.size)) 1 6 s9 12 [(0, .ref (a k0)), (1, .int (zI x1)), (2, .ref (a k2))] [.ref q9]) H1 locs1 ls hO hP hS hL
      refine zr_astore_n C (L' := [(3, .ref q9), (0, .ref (a k0)), (1, .int (zI x1)), (2, .ref (a k2))]) dL_wordLength_12 rfl (by decide) rfl rfl ?_
      refine zr_iconst C dL_wordLength_13 rfl ?_
      exact zr_widen (Nat.le_of_ble_eq_true rfl) (Nat.le_of_ble_eq_true rfl) (zr_vx (zr_iret C hr dL_wordLength_14 ⟨_, rfl, hq⟩))
    · exact (hx.2.1 rfl).elim
    · exact (hx.2.2.1 rfl).elim
    · exact (hx.2.2.2 rfl).elim
  · obtain ⟨r1, rfl, hq⟩ := hv
    obtain ⟨h0, hq⟩ := hq
    refine zr_i2l C dL_wordLength_7 h0 rfl ?_
    obtain ⟨h0, hq⟩ := hq
    refine zr_last C hk2 (by decide) h0 dL_wordLength_8 rfl (fun s2 es2 => ?_)
    have hq := hq s2 es2
    refine zr_goto C (tgt := 15) dL_wordLength_9 (by decide) ?_
    refine zr_iconst C dL_wordLength_15 rfl ?_
    exact zr_widen (Nat.le_of_ble_eq_true rfl) (Nat.le_of_ble_eq_true rfl) (zr_vx (zr_iret C hr dL_wordLength_16 ⟨_, rfl, hq⟩)))
/-! InflectionGuesserLaw.wordLetter(LInflectionGuesser;II[J)I -/
set_option maxRecDepth 20000 in
theorem ggL_wordLetter_X6_wordLetter : GoodIn wsL_wordLetter wsX6_wordLetter := goodIn_ca (goodIn_r _ [6, 7, 8, 9, 10, 11, 12, 5, 13, 14, 15, 16, 17, 18, 19, 20, 21, 22, 23, 24, 25, 26, 27, 28, 29, 30, 31, 32, 33, 34, 35, 36, 37, 38, 39, 40, 41, 42, 43, 44, 45] (by decide +kernel) (by decide +kernel)) (goodIn_sub (fun _ h => List.mem_cons_of_mem _ (List.mem_append_right _ h)) (by decide +kernel))
set_option maxRecDepth 20000 in
theorem gL_wordLetter_X6_wordLetter : GoodIn wsL_wordLetter (wsV RL 63 RX6 yX6_wordLetter wsX6_wordLetter) := goodIn_app (goodIn_of _ (by decide +kernel)) ggL_wordLetter_X6_wordLetter
theorem dL_wordLetter_0 : decode cL_wordLetter 0 = .ok (.aload_n 3, 1) := by decide +kernel
theorem dL_wordLetter_1 : decode cL_wordLetter 1 = .ok (.iconst 0, 1) := by decide +kernel
theorem dL_wordLetter_2 : decode cL_wordLetter 2 = .ok (.aload_n 0, 1) := by decide +kernel
theorem dL_wordLetter_3 : decode cL_wordLetter 3 = .ok (.iload_n 1, 1) := by decide +kernel
theorem dL_wordLetter_4 : decode cL_wordLetter 4 = .ok (.iload_n 2, 1) := by decide +kernel
theorem dL_wordLetter_5 : decode cL_wordLetter 5 = .ok (.invokevirtual 63, 3) := by decide +kernel
theorem dL_wordLetter_8 : decode cL_wordLetter 8 = .ok (.i2l, 1) := by decide +kernel
theorem dL_wordLetter_9 : decode cL_wordLetter 9 = .ok (.lastore, 1) := by decide +kernel
theorem dL_wordLetter_10 : decode cL_wordLetter 10 = .ok (.goto 7, 3) := by decide +kernel
theorem dL_wordLetter_13 : decode cL_wordLetter 13 = .ok (.astore 4, 2) := by decide +kernel
theorem dL_wordLetter_15 : decode cL_wordLetter 15 = .ok (.iconst 1, 1) := by decide +kernel
theorem dL_wordLetter_16 : decode cL_wordLetter 16 = .ok (.ireturn, 1) := by decide +kernel
theorem dL_wordLetter_17 : decode cL_wordLetter 17 = .ok (.iconst 0, 1) := by decide +kernel
theorem dL_wordLetter_18 : decode cL_wordLetter 18 = .ok (.ireturn, 1) := by decide +kernel
def rL_wordLetter : Room := { frames := 8, cells := 2, slots := 12, locals := 133 }
theorem lL_wordLetter_0 : Cond.classLink RL 21 (zEx 0) ∈ wsL_wordLetter := by decide +kernel
set_option maxRecDepth 100000 in
set_option maxHeartbeats 4000000 in
theorem mL_wordLetter {l : Launch} {a : Nat → Nat} {cy : Nat → ClassId} {D : va_G} {tV : Nat} {sa : Nat → Nat} (hl : l.stackTraces = false) {P : Int → Sto → Prop} {X : Nat → Sto → Prop} {σ : Sto} {k0 : Nat} {x1 : Int} {x2 : Int} {k3 : Nat} (hk0 : zk k0 = 5) (hk3 : zk k3 = 9) (hq : vL_wordLetter k0 x1 x2 k3 P σ) : zMX l yL_wordLetter wsL_wordLetter rL_wordLetter a cy D tV sa [.ref (a k0), .int (zI x1), .int (zI x2), .ref (a k3)] σ (zPI P) X 2 12 :=
  zMXH_of (cc := cL_wordLetter) (maxL := 5) (ret := (some .int)) (hh := [(0, 10, 13, 21)]) (by decide) rfl (Nat.le_of_ble_eq_true rfl) (L0 := [(0, .ref (a k0)), (1, .int (zI x1)), (2, .int (zI x2)), (3, .ref (a k3))]) rfl (fun p e s m args below meth c C hr ht => by
  unfold vL_wordLetter at hq
  refine zr_aload_n C dL_wordLetter_0 rfl (k := 3) rfl rfl ?_
  refine zr_iconst C dL_wordLetter_1 rfl ?_
  refine zr_aload_n C dL_wordLetter_2 rfl (k := 0) rfl rfl ?_
  refine zr_iload_n C dL_wordLetter_3 rfl (k := 1) rfl rfl ?_
  refine zr_iload_n C dL_wordLetter_4 rfl (k := 2) rfl rfl ?_
  refine zr_xcall (zrunVX C (st := [.int (zI 0), .ref (a k3)]) (mX6_wordLetter hl hk0 hq) (cwV 2 C.2.2.2.2.1 gL_wordLetter_X6_wordLetter rfl rfl rfl (by decide +kernel) ⟨Nat.le_of_ble_eq_true rfl, Nat.le_of_ble_eq_true rfl⟩) (zE_5 hk0) (zk_lt hk0 (by decide)) (T := TX6) (N := 8) rfl rfl rfl (Nat.le_of_ble_eq_true rfl) dL_wordLetter_5 ⟨(Nat.le_of_ble_eq_true rfl), (Nat.le_of_ble_eq_true rfl)⟩) rfl (fun i s9 H1 locs1 ls ce q9 hi hx hO hP hS hL h1 h2 h3 => ?_) (fun v s1 hv => ?_)
  · rcases (show i = 0 ∨ i = 1 ∨ i = 2 ∨ i = 3 by omega) with rfl | rfl | rfl | rfl
    · have hq := hx.1 rfl
      refine zr_catch C ht [] ⟨0, 10, 13, 21⟩ [] rfl 0 (by decide) (fun _ h => nomatch h) rfl (by decide) lL_wordLetter_0 h1 h2 h3 ?_
      refine (?_ : zX p l e rL_wordLetter s m args below meth c 5 a cy D (vx_MQ below (fun _ => zQo a cy D s.heap.size (zPI P)) (zXC a cy D s.heap.size X) args s 2 12 (zA a s.heap.size)) 2 12 s9 13 [(0, .ref (a k0)), (1, .int (zI x1)), (2, .int (zI x2)), (3, .ref (a k3))] [.ref q9]) H1 locs1 ls hO hP hS hL
      refine zr_astore C (L' := [(4, .ref q9), (0, .ref (a k0)), (1, .int (zI x1)), (2, .int (zI x2)), (3, .ref (a k3))]) dL_wordLetter_13 (by decide) rfl rfl ?_
      refine zr_iconst C dL_wordLetter_15 rfl ?_
      exact zr_widen (Nat.le_of_ble_eq_true rfl) (Nat.le_of_ble_eq_true rfl) (zr_vx (zr_iret C hr dL_wordLetter_16 ⟨_, rfl, hq⟩))
    · exact (hx.2.1 rfl).elim
    · exact (hx.2.2.1 rfl).elim
    · exact (hx.2.2.2 rfl).elim
  · obtain ⟨r1, rfl, hq⟩ := hv
    obtain ⟨h0, hq⟩ := hq
    refine zr_i2l C dL_wordLetter_8 h0 rfl ?_
    obtain ⟨h0, hq⟩ := hq
    refine zr_last C hk3 (by decide) h0 dL_wordLetter_9 rfl (fun s2 es2 => ?_)
    have hq := hq s2 es2
    refine zr_goto C (tgt := 17) dL_wordLetter_10 (by decide) ?_
    refine zr_iconst C dL_wordLetter_17 rfl ?_
    exact zr_widen (Nat.le_of_ble_eq_true rfl) (Nat.le_of_ble_eq_true rfl) (zr_vx (zr_iret C hr dL_wordLetter_18 ⟨_, rfl, hq⟩)))
/-! InflectionGuesserLaw.longestEnding(LInflectionGuesser;I[J)I -/
set_option maxRecDepth 20000 in
theorem ggL_longestEnding_X6_longestEnding : GoodIn wsL_longestEnding wsX6_longestEnding := goodIn_ca (goodIn_ca (goodIn_r _ [7, 8, 9, 10, 11, 12, 13, 14, 15, 16, 17, 18, 6, 19, 20, 21, 22, 23, 24, 25, 26, 27, 28, 29, 30, 31, 32, 33, 34, 35, 36, 37, 38, 39, 40, 41, 42, 43, 44, 45, 46, 47, 48, 49, 50, 51, 52, 53, 54, 55, 56, 57, 58, 59, 60, 61, 62, 63, 64, 65, 66, 67, 68, 69, 70, 71, 72] (by decide +kernel) (by decide +kernel)) (goodIn_sub (fun _ h => List.mem_cons_of_mem _ (List.mem_append_left _ (List.mem_append_right _ h))) (by decide +kernel))) (goodIn_sub (fun _ h => List.mem_cons_of_mem _ (List.mem_append_right _ h)) (by decide +kernel))
set_option maxRecDepth 20000 in
theorem gL_longestEnding_X6_longestEnding : GoodIn wsL_longestEnding (wsV RL 67 RX6 yX6_longestEnding wsX6_longestEnding) := goodIn_app (goodIn_of _ (by decide +kernel)) ggL_longestEnding_X6_longestEnding
theorem dL_longestEnding_0 : decode cL_longestEnding 0 = .ok (.aload_n 2, 1) := by decide +kernel
theorem dL_longestEnding_1 : decode cL_longestEnding 1 = .ok (.iconst 0, 1) := by decide +kernel
theorem dL_longestEnding_2 : decode cL_longestEnding 2 = .ok (.aload_n 0, 1) := by decide +kernel
theorem dL_longestEnding_3 : decode cL_longestEnding 3 = .ok (.iload_n 1, 1) := by decide +kernel
theorem dL_longestEnding_4 : decode cL_longestEnding 4 = .ok (.invokevirtual 67, 3) := by decide +kernel
theorem dL_longestEnding_7 : decode cL_longestEnding 7 = .ok (.i2l, 1) := by decide +kernel
theorem dL_longestEnding_8 : decode cL_longestEnding 8 = .ok (.lastore, 1) := by decide +kernel
theorem dL_longestEnding_9 : decode cL_longestEnding 9 = .ok (.goto 9, 3) := by decide +kernel
theorem dL_longestEnding_12 : decode cL_longestEnding 12 = .ok (.astore_n 3, 1) := by decide +kernel
theorem dL_longestEnding_13 : decode cL_longestEnding 13 = .ok (.iconst 1, 1) := by decide +kernel
theorem dL_longestEnding_14 : decode cL_longestEnding 14 = .ok (.ireturn, 1) := by decide +kernel
theorem dL_longestEnding_15 : decode cL_longestEnding 15 = .ok (.astore_n 3, 1) := by decide +kernel
theorem dL_longestEnding_16 : decode cL_longestEnding 16 = .ok (.iconst 2, 1) := by decide +kernel
theorem dL_longestEnding_17 : decode cL_longestEnding 17 = .ok (.ireturn, 1) := by decide +kernel
theorem dL_longestEnding_18 : decode cL_longestEnding 18 = .ok (.iconst 0, 1) := by decide +kernel
theorem dL_longestEnding_19 : decode cL_longestEnding 19 = .ok (.ireturn, 1) := by decide +kernel
def rL_longestEnding : Room := { frames := 8, cells := 2, slots := 12, locals := 136 }
theorem lL_longestEnding_0 : Cond.classLink RL 21 (zEx 0) ∈ wsL_longestEnding := by decide +kernel
theorem lL_longestEnding_3 : Cond.classLink RL 35 (zEx 3) ∈ wsL_longestEnding := by decide +kernel
set_option maxRecDepth 100000 in
set_option maxHeartbeats 4000000 in
theorem mL_longestEnding {l : Launch} {a : Nat → Nat} {cy : Nat → ClassId} {D : va_G} {tV : Nat} {sa : Nat → Nat} (hl : l.stackTraces = false) {P : Int → Sto → Prop} {X : Nat → Sto → Prop} {σ : Sto} {k0 : Nat} {x1 : Int} {k2 : Nat} (hk0 : zk k0 = 5) (hk2 : zk k2 = 9) (hq : vL_longestEnding k0 x1 k2 P σ) : zMX l yL_longestEnding wsL_longestEnding rL_longestEnding a cy D tV sa [.ref (a k0), .int (zI x1), .ref (a k2)] σ (zPI P) X 2 12 :=
  zMXH_of (cc := cL_longestEnding) (maxL := 4) (ret := (some .int)) (hh := [(0, 9, 12, 21), (0, 9, 15, 35)]) (by decide) rfl (Nat.le_of_ble_eq_true rfl) (L0 := [(0, .ref (a k0)), (1, .int (zI x1)), (2, .ref (a k2))]) rfl (fun p e s m args below meth c C hr ht => by
  unfold vL_longestEnding at hq
  refine zr_aload_n C dL_longestEnding_0 rfl (k := 2) rfl rfl ?_
  refine zr_iconst C dL_longestEnding_1 rfl ?_
  refine zr_aload_n C dL_longestEnding_2 rfl (k := 0) rfl rfl ?_
  refine zr_iload_n C dL_longestEnding_3 rfl (k := 1) rfl rfl ?_
  refine zr_xcall (zrunVX C (st := [.int (zI 0), .ref (a k2)]) (mX6_longestEnding hl hk0 hq) (cwV 1 C.2.2.2.2.1 gL_longestEnding_X6_longestEnding rfl rfl rfl (by decide +kernel) ⟨Nat.le_of_ble_eq_true rfl, Nat.le_of_ble_eq_true rfl⟩) (zE_5 hk0) (zk_lt hk0 (by decide)) (T := TX6) (N := 8) rfl rfl rfl (Nat.le_of_ble_eq_true rfl) dL_longestEnding_4 ⟨(Nat.le_of_ble_eq_true rfl), (Nat.le_of_ble_eq_true rfl)⟩) rfl (fun i s9 H1 locs1 ls ce q9 hi hx hO hP hS hL h1 h2 h3 => ?_) (fun v s1 hv => ?_)
  · rcases (show i = 0 ∨ i = 1 ∨ i = 2 ∨ i = 3 by omega) with rfl | rfl | rfl | rfl
    · have hq := hx.1 rfl
      refine zr_catch C ht [] ⟨0, 9, 12, 21⟩ [⟨0, 9, 15, 35⟩] rfl 0 (by decide) (fun _ h => nomatch h) rfl (by decide) lL_longestEnding_0 h1 h2 h3 ?_
      refine (?_ : zX p l e rL_longestEnding s m args below meth c 4 a cy D (vx_MQ below (fun _ => zQo a cy D s.heap.size (zPI P)) (zXC a cy D s.heap.size X) args s 2 12 (zA a s.heap.size)) 2 12 s9 12 [(0, .ref (a k0)), (1, .int (zI x1)), (2, .ref (a k2))] [.ref q9]) H1 locs1 ls hO hP hS hL
      refine zr_astore_n C (L' := [(3, .ref q9), (0, .ref (a k0)), (1, .int (zI x1)), (2, .ref (a k2))]) dL_longestEnding_12 rfl (by decide) rfl rfl ?_
      refine zr_iconst C dL_longestEnding_13 rfl ?_
      exact zr_widen (Nat.le_of_ble_eq_true rfl) (Nat.le_of_ble_eq_true rfl) (zr_vx (zr_iret C hr dL_longestEnding_14 ⟨_, rfl, hq⟩))
    · exact (hx.2.1 rfl).elim
    · exact (hx.2.2.1 rfl).elim
    · have hq := hx.2.2.2 rfl
      refine zr_catch C ht [⟨0, 9, 12, 21⟩] ⟨0, 9, 15, 35⟩ [] rfl 3 (by decide) (List.forall_mem_cons.mpr ⟨⟨by decide, 0, by decide, by decide, lL_longestEnding_0⟩, (fun _ h => nomatch h)⟩) rfl (by decide) lL_longestEnding_3 h1 h2 h3 ?_
      refine (?_ : zX p l e rL_longestEnding s m args below meth c 4 a cy D (vx_MQ below (fun _ => zQo a cy D s.heap.size (zPI P)) (zXC a cy D s.heap.size X) args s 2 12 (zA a s.heap.size)) 2 12 s9 15 [(0, .ref (a k0)), (1, .int (zI x1)), (2, .ref (a k2))] [.ref q9]) H1 locs1 ls hO hP hS hL
      refine zr_astore_n C (L' := [(3, .ref q9), (0, .ref (a k0)), (1, .int (zI x1)), (2, .ref (a k2))]) dL_longestEnding_15 rfl (by decide) rfl rfl ?_
      refine zr_iconst C dL_longestEnding_16 rfl ?_
      exact zr_widen (Nat.le_of_ble_eq_true rfl) (Nat.le_of_ble_eq_true rfl) (zr_vx (zr_iret C hr dL_longestEnding_17 ⟨_, rfl, hq⟩))
  · obtain ⟨r1, rfl, hq⟩ := hv
    obtain ⟨h0, hq⟩ := hq
    refine zr_i2l C dL_longestEnding_7 h0 rfl ?_
    obtain ⟨h0, hq⟩ := hq
    refine zr_last C hk2 (by decide) h0 dL_longestEnding_8 rfl (fun s2 es2 => ?_)
    have hq := hq s2 es2
    refine zr_goto C (tgt := 18) dL_longestEnding_9 (by decide) ?_
    refine zr_iconst C dL_longestEnding_18 rfl ?_
    exact zr_widen (Nat.le_of_ble_eq_true rfl) (Nat.le_of_ble_eq_true rfl) (zr_vx (zr_iret C hr dL_longestEnding_19 ⟨_, rfl, hq⟩)))
/-! InflectionGuesserLaw.endings(LInflectionGuesser;I[J)I -/
set_option maxRecDepth 20000 in
theorem ggL_endings_X6_endings : GoodIn wsL_endings wsX6_endings := goodIn_ca (goodIn_r _ [6, 7, 8, 9, 10, 11, 5, 12, 13, 14, 15, 16, 17, 18, 19, 20, 21, 22, 23, 24, 25, 26, 27, 28, 29, 30, 31, 32, 33, 34, 35, 36, 37, 38, 39, 40, 41, 42, 43, 44, 45, 46, 47, 48, 49, 50, 51, 52, 53, 54, 55, 56, 57, 58, 59, 60, 61, 62, 63, 64, 65, 66] (by decide +kernel) (by decide +kernel)) (goodIn_sub (fun _ h => List.mem_cons_of_mem _ (List.mem_append_right _ h)) (by decide +kernel))
set_option maxRecDepth 20000 in
theorem gL_endings_X6_endings : GoodIn wsL_endings (wsV RL 70 RX6 yX6_endings wsX6_endings) := goodIn_app (goodIn_of _ (by decide +kernel)) ggL_endings_X6_endings
theorem dL_endings_0 : decode cL_endings 0 = .ok (.aload_n 2, 1) := by decide +kernel
theorem dL_endings_1 : decode cL_endings 1 = .ok (.iconst 0, 1) := by decide +kernel
theorem dL_endings_2 : decode cL_endings 2 = .ok (.aload_n 0, 1) := by decide +kernel
theorem dL_endings_3 : decode cL_endings 3 = .ok (.iload_n 1, 1) := by decide +kernel
theorem dL_endings_4 : decode cL_endings 4 = .ok (.invokevirtual 70, 3) := by decide +kernel
theorem dL_endings_7 : decode cL_endings 7 = .ok (.i2l, 1) := by decide +kernel
theorem dL_endings_8 : decode cL_endings 8 = .ok (.lastore, 1) := by decide +kernel
theorem dL_endings_9 : decode cL_endings 9 = .ok (.goto 6, 3) := by decide +kernel
theorem dL_endings_12 : decode cL_endings 12 = .ok (.astore_n 3, 1) := by decide +kernel
theorem dL_endings_13 : decode cL_endings 13 = .ok (.iconst 1, 1) := by decide +kernel
theorem dL_endings_14 : decode cL_endings 14 = .ok (.ireturn, 1) := by decide +kernel
theorem dL_endings_15 : decode cL_endings 15 = .ok (.iconst 0, 1) := by decide +kernel
theorem dL_endings_16 : decode cL_endings 16 = .ok (.ireturn, 1) := by decide +kernel
def rL_endings : Room := { frames := 8, cells := 1, slots := 6, locals := 135 }
theorem lL_endings_0 : Cond.classLink RL 21 (zEx 0) ∈ wsL_endings := by decide +kernel
set_option maxRecDepth 100000 in
set_option maxHeartbeats 4000000 in
theorem mL_endings {l : Launch} {a : Nat → Nat} {cy : Nat → ClassId} {D : va_G} {tV : Nat} {sa : Nat → Nat} (hl : l.stackTraces = false) {P : Int → Sto → Prop} {X : Nat → Sto → Prop} {σ : Sto} {k0 : Nat} {x1 : Int} {k2 : Nat} (hk0 : zk k0 = 5) (hk2 : zk k2 = 9) (hq : vL_endings k0 x1 k2 P σ) : zMX l yL_endings wsL_endings rL_endings a cy D tV sa [.ref (a k0), .int (zI x1), .ref (a k2)] σ (zPI P) X 1 6 :=
  zMXH_of (cc := cL_endings) (maxL := 4) (ret := (some .int)) (hh := [(0, 9, 12, 21)]) (by decide) rfl (Nat.le_of_ble_eq_true rfl) (L0 := [(0, .ref (a k0)), (1, .int (zI x1)), (2, .ref (a k2))]) rfl (fun p e s m args below meth c C hr ht => by
  unfold vL_endings at hq
  refine zr_aload_n C dL_endings_0 rfl (k := 2) rfl rfl ?_
  refine zr_iconst C dL_endings_1 rfl ?_
  refine zr_aload_n C dL_endings_2 rfl (k := 0) rfl rfl ?_
  refine zr_iload_n C dL_endings_3 rfl (k := 1) rfl rfl ?_
  refine zr_xcall (zrunVX C (st := [.int (zI 0), .ref (a k2)]) (mX6_endings hl hk0 hq) (cwV 1 C.2.2.2.2.1 gL_endings_X6_endings rfl rfl rfl (by decide +kernel) ⟨Nat.le_of_ble_eq_true rfl, Nat.le_of_ble_eq_true rfl⟩) (zE_5 hk0) (zk_lt hk0 (by decide)) (T := TX6) (N := 8) rfl rfl rfl (Nat.le_of_ble_eq_true rfl) dL_endings_4 ⟨(Nat.le_of_ble_eq_true rfl), (Nat.le_of_ble_eq_true rfl)⟩) rfl (fun i s9 H1 locs1 ls ce q9 hi hx hO hP hS hL h1 h2 h3 => ?_) (fun v s1 hv => ?_)
  · rcases (show i = 0 ∨ i = 1 ∨ i = 2 ∨ i = 3 by omega) with rfl | rfl | rfl | rfl
    · have hq := hx.1 rfl
      refine zr_catch C ht [] ⟨0, 9, 12, 21⟩ [] rfl 0 (by decide) (fun _ h => nomatch h) rfl (by decide) lL_endings_0 h1 h2 h3 ?_
      refine (?_ : zX p l e rL_endings s m args below meth c 4 a cy D (vx_MQ below (fun _ => zQo a cy D s.heap.size (zPI P)) (zXC a cy D s.heap.size X) args s 1 6 (zA a s.heap.size)) 1 6 s9 12 [(0, .ref (a k0)), (1, .int (zI x1)), (2, .ref (a k2))] [.ref q9]) H1 locs1 ls hO hP hS hL
      refine zr_astore_n C (L' := [(3, .ref q9), (0, .ref (a k0)), (1, .int (zI x1)), (2, .ref (a k2))]) dL_endings_12 rfl (by decide) rfl rfl ?_
      refine zr_iconst C dL_endings_13 rfl ?_
      exact zr_widen (Nat.le_of_ble_eq_true rfl) (Nat.le_of_ble_eq_true rfl) (zr_vx (zr_iret C hr dL_endings_14 ⟨_, rfl, hq⟩))
    · exact (hx.2.1 rfl).elim
    · exact (hx.2.2.1 rfl).elim
    · exact (hx.2.2.2 rfl).elim
  · obtain ⟨r1, rfl, hq⟩ := hv
    obtain ⟨h0, hq⟩ := hq
    refine zr_i2l C dL_endings_7 h0 rfl ?_
    obtain ⟨h0, hq⟩ := hq
    refine zr_last C hk2 (by decide) h0 dL_endings_8 rfl (fun s2 es2 => ?_)
    have hq := hq s2 es2
    refine zr_goto C (tgt := 15) dL_endings_9 (by decide) ?_
    refine zr_iconst C dL_endings_15 rfl ?_
    exact zr_widen (Nat.le_of_ble_eq_true rfl) (Nat.le_of_ble_eq_true rfl) (zr_vx (zr_iret C hr dL_endings_16 ⟨_, rfl, hq⟩)))
/-! InflectionGuesserLaw.hypothesis(LInflectionGuesser;II[J)I -/
set_option maxRecDepth 20000 in
theorem ggL_hypothesis_X6_hypothesis : GoodIn wsL_hypothesis wsX6_hypothesis := goodIn_ca (goodIn_ca (goodIn_r _ [7, 8, 9, 10, 11, 12, 13, 6, 14, 15, 16, 17, 18, 19, 20, 21, 22, 23, 24, 25, 26, 27, 28, 29, 30, 31, 32, 33, 34, 35, 36, 37, 38, 39, 40, 41, 42, 43, 44, 45, 46, 47, 48, 49, 50, 51, 52, 53, 54, 55, 56, 57, 58, 59, 60, 61, 62, 63, 64, 65, 66, 67, 68, 69, 70, 71, 72, 73, 74, 75, 76, 77, 78, 79, 80, 81, 82, 83, 84, 85, 86, 87, 88, 89, 90, 91, 92, 93, 94, 95, 96, 97, 98, 99, 100, 101, 102, 103, 104, 105, 106, 107, 108, 109, 110, 111, 112, 113, 114, 115, 116, 117, 118, 119, 120, 121, 122, 123, 124, 125, 126, 127, 128, 129, 130, 131, 132, 133, 134, 135, 136, 137, 138, 139, 140, 141, 142, 143, 144, 145, 146, 147, 148, 149, 150, 151, 152, 153, 154, 155, 156, 157, 158, 159, 160, 161, 162, 163, 164, 165, 166, 167, 168, 169, 170, 171, 172, 173, 174, 175, 176, 177, 178, 179, 180, 181, 182, 183, 184, 185, 186, 187, 188, 189, 190, 191] (by decide +kernel) (by decide +kernel)) (goodIn_sub (fun _ h => List.mem_cons_of_mem _ (List.mem_append_left _ (List.mem_append_right _ h))) (by decide +kernel))) (goodIn_sub (fun _ h => List.mem_cons_of_mem _ (List.mem_append_right _ h)) (by decide +kernel))
set_option maxRecDepth 20000 in
theorem gL_hypothesis_X6_hypothesis : GoodIn wsL_hypothesis (wsV RL 73 RX6 yX6_hypothesis wsX6_hypothesis) := goodIn_app (goodIn_of _ (by decide +kernel)) ggL_hypothesis_X6_hypothesis
theorem dL_hypothesis_0 : decode cL_hypothesis 0 = .ok (.aload_n 3, 1) := by decide +kernel
theorem dL_hypothesis_1 : decode cL_hypothesis 1 = .ok (.iconst 0, 1) := by decide +kernel
theorem dL_hypothesis_2 : decode cL_hypothesis 2 = .ok (.aload_n 0, 1) := by decide +kernel
theorem dL_hypothesis_3 : decode cL_hypothesis 3 = .ok (.iload_n 1, 1) := by decide +kernel
theorem dL_hypothesis_4 : decode cL_hypothesis 4 = .ok (.iload_n 2, 1) := by decide +kernel
theorem dL_hypothesis_5 : decode cL_hypothesis 5 = .ok (.invokevirtual 73, 3) := by decide +kernel
theorem dL_hypothesis_8 : decode cL_hypothesis 8 = .ok (.i2l, 1) := by decide +kernel
theorem dL_hypothesis_9 : decode cL_hypothesis 9 = .ok (.lastore, 1) := by decide +kernel
theorem dL_hypothesis_10 : decode cL_hypothesis 10 = .ok (.goto 11, 3) := by decide +kernel
theorem dL_hypothesis_13 : decode cL_hypothesis 13 = .ok (.astore 4, 2) := by decide +kernel
theorem dL_hypothesis_15 : decode cL_hypothesis 15 = .ok (.iconst 1, 1) := by decide +kernel
theorem dL_hypothesis_16 : decode cL_hypothesis 16 = .ok (.ireturn, 1) := by decide +kernel
theorem dL_hypothesis_17 : decode cL_hypothesis 17 = .ok (.astore 4, 2) := by decide +kernel
theorem dL_hypothesis_19 : decode cL_hypothesis 19 = .ok (.iconst 2, 1) := by decide +kernel
theorem dL_hypothesis_20 : decode cL_hypothesis 20 = .ok (.ireturn, 1) := by decide +kernel
theorem dL_hypothesis_21 : decode cL_hypothesis 21 = .ok (.iconst 0, 1) := by decide +kernel
theorem dL_hypothesis_22 : decode cL_hypothesis 22 = .ok (.ireturn, 1) := by decide +kernel
def rL_hypothesis : Room := { frames := 8, cells := 2, slots := 12, locals := 192 }
theorem lL_hypothesis_0 : Cond.classLink RL 21 (zEx 0) ∈ wsL_hypothesis := by decide +kernel
theorem lL_hypothesis_1 : Cond.classLink RL 13 (zEx 1) ∈ wsL_hypothesis := by decide +kernel
set_option maxRecDepth 100000 in
set_option maxHeartbeats 4000000 in
theorem mL_hypothesis {l : Launch} {a : Nat → Nat} {cy : Nat → ClassId} {D : va_G} {tV : Nat} {sa : Nat → Nat} (hl : l.stackTraces = false) {P : Int → Sto → Prop} {X : Nat → Sto → Prop} {σ : Sto} {k0 : Nat} {x1 : Int} {x2 : Int} {k3 : Nat} (hk0 : zk k0 = 5) (hk3 : zk k3 = 9) (hq : vL_hypothesis k0 x1 x2 k3 P σ) : zMX l yL_hypothesis wsL_hypothesis rL_hypothesis a cy D tV sa [.ref (a k0), .int (zI x1), .int (zI x2), .ref (a k3)] σ (zPI P) X 2 12 :=
  zMXH_of (cc := cL_hypothesis) (maxL := 5) (ret := (some .int)) (hh := [(0, 10, 13, 21), (0, 10, 17, 13)]) (by decide) rfl (Nat.le_of_ble_eq_true rfl) (L0 := [(0, .ref (a k0)), (1, .int (zI x1)), (2, .int (zI x2)), (3, .ref (a k3))]) rfl (fun p e s m args below meth c C hr ht => by
  unfold vL_hypothesis at hq
  refine zr_aload_n C dL_hypothesis_0 rfl (k := 3) rfl rfl ?_
  refine zr_iconst C dL_hypothesis_1 rfl ?_
  refine zr_aload_n C dL_hypothesis_2 rfl (k := 0) rfl rfl ?_
  refine zr_iload_n C dL_hypothesis_3 rfl (k := 1) rfl rfl ?_
  refine zr_iload_n C dL_hypothesis_4 rfl (k := 2) rfl rfl ?_
  refine zr_xcall (zrunVX C (st := [.int (zI 0), .ref (a k3)]) (mX6_hypothesis hl hk0 hq) (cwV 2 C.2.2.2.2.1 gL_hypothesis_X6_hypothesis rfl rfl rfl (by decide +kernel) ⟨Nat.le_of_ble_eq_true rfl, Nat.le_of_ble_eq_true rfl⟩) (zE_5 hk0) (zk_lt hk0 (by decide)) (T := TX6) (N := 8) rfl rfl rfl (Nat.le_of_ble_eq_true rfl) dL_hypothesis_5 ⟨(Nat.le_of_ble_eq_true rfl), (Nat.le_of_ble_eq_true rfl)⟩) rfl (fun i s9 H1 locs1 ls ce q9 hi hx hO hP hS hL h1 h2 h3 => ?_) (fun v s1 hv => ?_)
  · rcases (show i = 0 ∨ i = 1 ∨ i = 2 ∨ i = 3 by omega) with rfl | rfl | rfl | rfl
    · have hq := hx.1 rfl
      refine zr_catch C ht [] ⟨0, 10, 13, 21⟩ [⟨0, 10, 17, 13⟩] rfl 0 (by decide) (fun _ h => nomatch h) rfl (by decide) lL_hypothesis_0 h1 h2 h3 ?_
      refine (?_ : zX p l e rL_hypothesis s m args below meth c 5 a cy D (vx_MQ below (fun _ => zQo a cy D s.heap.size (zPI P)) (zXC a cy D s.heap.size X) args s 2 12 (zA a s.heap.size)) 2 12 s9 13 [(0, .ref (a k0)), (1, .int (zI x1)), (2, .int (zI x2)), (3, .ref (a k3))] [.ref q9]) H1 locs1 ls hO hP hS hL
      refine zr_astore C (L' := [(4, .ref q9), (0, .ref (a k0)), (1, .int (zI x1)), (2, .int (zI x2)), (3, .ref (a k3))]) dL_hypothesis_13 (by decide) rfl rfl ?_
      refine zr_iconst C dL_hypothesis_15 rfl ?_
      exact zr_widen (Nat.le_of_ble_eq_true rfl) (Nat.le_of_ble_eq_true rfl) (zr_vx (zr_iret C hr dL_hypothesis_16 ⟨_, rfl, hq⟩))
    · have hq := hx.2.1 rfl
      refine zr_catch C ht [⟨0, 10, 13, 21⟩] ⟨0, 10, 17, 13⟩ [] rfl 1 (by decide) (List.forall_mem_cons.mpr ⟨⟨by decide, 0, by decide, by decide, lL_hypothesis_0⟩, (fun _ h => nomatch h)⟩) rfl (by decide) lL_hypothesis_1 h1 h2 h3 ?_
      refine (?_ : zX p l e rL_hypothesis s m args below meth c 5 a cy D (vx_MQ below (fun _ => zQo a cy D s.heap.size (zPI P)) (zXC a cy D s.heap.size X) args s 2 12 (zA a s.heap.size)) 2 12 s9 17 [(0, .ref (a k0)), (1, .int (zI x1)), (2, .int (zI x2)), (3, .ref (a k3))] [.ref q9]) H1 locs1 ls hO hP hS hL
      refine zr_astore C (L' := [(4, .ref q9), (0, .ref (a k0)), (1, .int (zI x1)), (2, .int (zI x2)), (3, .ref (a k3))]) dL_hypothesis_17 (by decide) rfl rfl ?_
      refine zr_iconst C dL_hypothesis_19 rfl ?_
      exact zr_widen (Nat.le_of_ble_eq_true rfl) (Nat.le_of_ble_eq_true rfl) (zr_vx (zr_iret C hr dL_hypothesis_20 ⟨_, rfl, hq⟩))
    · exact (hx.2.2.1 rfl).elim
    · exact (hx.2.2.2 rfl).elim
  · obtain ⟨r1, rfl, hq⟩ := hv
    obtain ⟨h0, hq⟩ := hq
    refine zr_i2l C dL_hypothesis_8 h0 rfl ?_
    obtain ⟨h0, hq⟩ := hq
    refine zr_last C hk3 (by decide) h0 dL_hypothesis_9 rfl (fun s2 es2 => ?_)
    have hq := hq s2 es2
    refine zr_goto C (tgt := 21) dL_hypothesis_10 (by decide) ?_
    refine zr_iconst C dL_hypothesis_21 rfl ?_
    exact zr_widen (Nat.le_of_ble_eq_true rfl) (Nat.le_of_ble_eq_true rfl) (zr_vx (zr_iret C hr dL_hypothesis_22 ⟨_, rfl, hq⟩)))
