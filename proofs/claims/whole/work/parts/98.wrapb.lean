/-! InflectionGuesserLaw.stemLetter(LInflectionGuesser;II[J)I -/
set_option maxRecDepth 20000 in
theorem ggL_stemLetter_X6_stemLetter : GoodIn wsL_stemLetter wsX6_stemLetter := goodIn_ca (goodIn_r _ [6, 7, 8, 9, 10, 11, 12, 5, 13, 14, 15, 16, 17, 18, 19, 20, 21, 22, 23, 24, 25, 26, 27, 28, 29, 30, 31, 32, 33, 34, 35, 36, 37, 38, 39, 40, 41, 42, 43, 44, 45, 46, 47, 48, 49, 50, 51, 52, 53, 54, 55, 56, 57, 58, 59, 60, 61, 62, 63, 64, 65, 66, 67, 68, 69, 70, 71, 72, 73, 74, 75, 76, 77, 78, 79, 80, 81, 82, 83, 84, 85, 86, 87, 88, 89, 90, 91, 92, 93, 94, 95, 96, 97, 98, 99, 100, 101, 102, 103, 104, 105, 106, 107, 108, 109, 110, 111, 112, 113, 114, 115, 116, 117, 118, 119, 120, 121, 122, 123, 124, 125, 126, 127, 128, 129, 130, 131, 132, 133, 134, 135, 136, 137, 138, 139, 140, 141, 142, 143, 144, 145, 146, 147, 148, 149, 150, 151, 152, 153, 154, 155, 156, 157, 158, 159, 160, 161, 162, 163, 164, 165, 166, 167, 168, 169, 170, 171, 172, 173, 174, 175, 176, 177, 178, 179, 180, 181, 182, 183] (by decide +kernel) (by decide +kernel)) (goodIn_sub (fun _ h => List.mem_cons_of_mem _ (List.mem_append_right _ h)) (by decide +kernel))
set_option maxRecDepth 20000 in
theorem gL_stemLetter_X6_stemLetter : GoodIn wsL_stemLetter (wsV RL 76 RX6 yX6_stemLetter wsX6_stemLetter) := goodIn_app (goodIn_of _ (by decide +kernel)) ggL_stemLetter_X6_stemLetter
theorem dL_stemLetter_0 : decode cL_stemLetter 0 = .ok (.aload_n 3, 1) := by decide +kernel
theorem dL_stemLetter_1 : decode cL_stemLetter 1 = .ok (.iconst 0, 1) := by decide +kernel
theorem dL_stemLetter_2 : decode cL_stemLetter 2 = .ok (.aload_n 0, 1) := by decide +kernel
theorem dL_stemLetter_3 : decode cL_stemLetter 3 = .ok (.iload_n 1, 1) := by decide +kernel
theorem dL_stemLetter_4 : decode cL_stemLetter 4 = .ok (.iload_n 2, 1) := by decide +kernel
theorem dL_stemLetter_5 : decode cL_stemLetter 5 = .ok (.invokevirtual 76, 3) := by decide +kernel
theorem dL_stemLetter_8 : decode cL_stemLetter 8 = .ok (.i2l, 1) := by decide +kernel
theorem dL_stemLetter_9 : decode cL_stemLetter 9 = .ok (.lastore, 1) := by decide +kernel
theorem dL_stemLetter_10 : decode cL_stemLetter 10 = .ok (.goto 7, 3) := by decide +kernel
theorem dL_stemLetter_13 : decode cL_stemLetter 13 = .ok (.astore 4, 2) := by decide +kernel
theorem dL_stemLetter_15 : decode cL_stemLetter 15 = .ok (.iconst 1, 1) := by decide +kernel
theorem dL_stemLetter_16 : decode cL_stemLetter 16 = .ok (.ireturn, 1) := by decide +kernel
theorem dL_stemLetter_17 : decode cL_stemLetter 17 = .ok (.iconst 0, 1) := by decide +kernel
theorem dL_stemLetter_18 : decode cL_stemLetter 18 = .ok (.ireturn, 1) := by decide +kernel
def rL_stemLetter : Room := { frames := 8, cells := 2, slots := 12, locals := 192 }
theorem lL_stemLetter_0 : Cond.classLink RL 21 (zEx 0) ∈ wsL_stemLetter := by decide +kernel
set_option maxRecDepth 100000 in
set_option maxHeartbeats 4000000 in
theorem mL_stemLetter {l : Launch} {a : Nat → Nat} {cy : Nat → ClassId} {D : va_G} {tV : Nat} {sa : Nat → Nat} (hl : l.stackTraces = false) {P : Int → Sto → Prop} {X : Nat → Sto → Prop} {σ : Sto} {k0 : Nat} {x1 : Int} {x2 : Int} {k3 : Nat} (hk0 : zk k0 = 5) (hk3 : zk k3 = 9) (hq : vL_stemLetter k0 x1 x2 k3 P σ) : zMX l yL_stemLetter wsL_stemLetter rL_stemLetter a cy D tV sa [.ref (a k0), .int (zI x1), .int (zI x2), .ref (a k3)] σ (zPI P) X 2 12 :=
  zMXH_of (cc := cL_stemLetter) (maxL := 5) (ret := (some .int)) (hh := [(0, 10, 13, 21)]) (by decide) rfl (Nat.le_of_ble_eq_true rfl) (L0 := [(0, .ref (a k0)), (1, .int (zI x1)), (2, .int (zI x2)), (3, .ref (a k3))]) rfl (fun p e s m args below meth c C hr ht => by
  unfold vL_stemLetter at hq
  refine zr_aload_n C dL_stemLetter_0 rfl (k := 3) rfl rfl ?_
  refine zr_iconst C dL_stemLetter_1 rfl ?_
  refine zr_aload_n C dL_stemLetter_2 rfl (k := 0) rfl rfl ?_
  refine zr_iload_n C dL_stemLetter_3 rfl (k := 1) rfl rfl ?_
  refine zr_iload_n C dL_stemLetter_4 rfl (k := 2) rfl rfl ?_
  refine zr_xcall (zrunVX C (st := [.int (zI 0), .ref (a k3)]) (mX6_stemLetter hl hk0 hq) (cwV 2 C.2.2.2.2.1 gL_stemLetter_X6_stemLetter rfl rfl rfl (by decide +kernel) ⟨Nat.le_of_ble_eq_true rfl, Nat.le_of_ble_eq_true rfl⟩) (zE_5 hk0) (zk_lt hk0 (by decide)) (T := TX6) (N := 8) rfl rfl rfl (Nat.le_of_ble_eq_true rfl) dL_stemLetter_5 ⟨(Nat.le_of_ble_eq_true rfl), (Nat.le_of_ble_eq_true rfl)⟩) rfl (fun i s9 H1 locs1 ls ce q9 hi hx hO hP hS hL h1 h2 h3 => ?_) (fun v s1 hv => ?_)
  · rcases (show i = 0 ∨ i = 1 ∨ i = 2 ∨ i = 3 by omega) with rfl | rfl | rfl | rfl
    · have hq := hx.1 rfl
      refine zr_catch C ht [] ⟨0, 10, 13, 21⟩ [] rfl 0 (by decide) (fun _ h => nomatch h) rfl (by decide) lL_stemLetter_0 h1 h2 h3 ?_
      refine (?_ : zX p l e rL_stemLetter s m args below meth c 5 a cy D (vx_MQ below (fun _ => zQo a cy D s.heap.size (zPI P)) (zXC a cy D s.heap.size X) args s 2 12 (zA a s.heap.size)) 2 12 s9 13 [(0, .ref (a k0)), (1, .int (zI x1)), (2, .int (zI x2)), (3, .ref (a k3))] [.ref q9]) H1 locs1 ls hO hP hS hL
      refine zr_astore C (L' := [(4, .ref q9), (0, .ref (a k0)), (1, .int (zI x1)), (2, .int (zI x2)), (3, .ref (a k3))]) dL_stemLetter_13 (by decide) rfl rfl ?_
      refine zr_iconst C dL_stemLetter_15 rfl ?_
      exact zr_widen (Nat.le_of_ble_eq_true rfl) (Nat.le_of_ble_eq_true rfl) (zr_vx (zr_iret C hr dL_stemLetter_16 ⟨_, rfl, hq⟩))
    · exact (hx.2.1 rfl).elim
    · exact (hx.2.2.1 rfl).elim
    · exact (hx.2.2.2 rfl).elim
  · obtain ⟨r1, rfl, hq⟩ := hv
    obtain ⟨h0, hq⟩ := hq
    refine zr_i2l C dL_stemLetter_8 h0 rfl ?_
    obtain ⟨h0, hq⟩ := hq
    refine zr_last C hk3 (by decide) h0 dL_stemLetter_9 rfl (fun s2 es2 => ?_)
    have hq := hq s2 es2
    refine zr_goto C (tgt := 17) dL_stemLetter_10 (by decide) ?_
    refine zr_iconst C dL_stemLetter_17 rfl ?_
    exact zr_widen (Nat.le_of_ble_eq_true rfl) (Nat.le_of_ble_eq_true rfl) (zr_vx (zr_iret C hr dL_stemLetter_18 ⟨_, rfl, hq⟩)))
/-! InflectionGuesserLaw.explains(LInflectionGuesser;II[J)I -/
set_option maxRecDepth 20000 in
theorem ggL_explains_X6_explains : GoodIn wsL_explains wsX6_explains := goodIn_ca (goodIn_r _ [6, 7, 8, 9, 10, 5, 11, 12, 13, 14, 15, 16, 17, 18, 19, 20, 21, 22, 23, 24, 25, 26, 27, 28, 29, 30, 31, 32, 33, 34, 35, 36, 37, 38, 39, 40, 41, 42, 43, 44, 45, 46, 47, 48, 49, 50, 51, 52, 53, 54, 55, 56, 57, 58, 59, 60, 61, 62, 63, 64, 65, 66, 67, 68, 69, 70, 71, 72, 73, 74, 75, 76, 77, 78, 79, 80, 81, 82, 83, 84, 85, 86, 87, 88, 89, 90, 91, 92, 93, 94, 95, 96, 97, 98, 99, 100, 101, 102, 103, 104, 105, 106, 107, 108, 109, 110, 111, 112, 113, 114, 115, 116, 117, 118, 119, 120, 121, 122, 123, 124, 125, 126, 127, 128, 129, 130, 131, 132, 133, 134, 135, 136, 137, 138, 139, 140, 141, 142, 143, 144, 145, 146, 147, 148, 149, 150, 151, 152, 153, 154, 155, 156, 157, 158, 159, 160, 161, 162, 163, 164, 165, 166, 167, 168, 169, 170, 171, 172, 173, 174, 175, 176, 177, 178, 179, 180, 181] (by decide +kernel) (by decide +kernel)) (goodIn_sub (fun _ h => List.mem_cons_of_mem _ (List.mem_append_right _ h)) (by decide +kernel))
set_option maxRecDepth 20000 in
theorem gL_explains_X6_explains : GoodIn wsL_explains (wsV RL 79 RX6 yX6_explains wsX6_explains) := goodIn_app (goodIn_of _ (by decide +kernel)) ggL_explains_X6_explains
theorem dL_explains_0 : decode cL_explains 0 = .ok (.aload_n 3, 1) := by decide +kernel
theorem dL_explains_1 : decode cL_explains 1 = .ok (.iconst 0, 1) := by decide +kernel
theorem dL_explains_2 : decode cL_explains 2 = .ok (.aload_n 0, 1) := by decide +kernel
theorem dL_explains_3 : decode cL_explains 3 = .ok (.iload_n 1, 1) := by decide +kernel
theorem dL_explains_4 : decode cL_explains 4 = .ok (.iload_n 2, 1) := by decide +kernel
theorem dL_explains_5 : decode cL_explains 5 = .ok (.invokevirtual 79, 3) := by decide +kernel
theorem dL_explains_8 : decode cL_explains 8 = .ok (.ifCond .eq 7, 3) := by decide +kernel
theorem dL_explains_11 : decode cL_explains 11 = .ok (.lconst 1, 1) := by decide +kernel
theorem dL_explains_12 : decode cL_explains 12 = .ok (.goto 4, 3) := by decide +kernel
theorem dL_explains_15 : decode cL_explains 15 = .ok (.lconst 0, 1) := by decide +kernel
theorem dL_explains_16 : decode cL_explains 16 = .ok (.lastore, 1) := by decide +kernel
theorem dL_explains_17 : decode cL_explains 17 = .ok (.goto 7, 3) := by decide +kernel
theorem dL_explains_20 : decode cL_explains 20 = .ok (.astore 4, 2) := by decide +kernel
theorem dL_explains_22 : decode cL_explains 22 = .ok (.iconst 1, 1) := by decide +kernel
theorem dL_explains_23 : decode cL_explains 23 = .ok (.ireturn, 1) := by decide +kernel
theorem dL_explains_24 : decode cL_explains 24 = .ok (.iconst 0, 1) := by decide +kernel
theorem dL_explains_25 : decode cL_explains 25 = .ok (.ireturn, 1) := by decide +kernel
def rL_explains : Room := { frames := 8, cells := 2, slots := 12, locals := 190 }
theorem lL_explains_0 : Cond.classLink RL 21 (zEx 0) ∈ wsL_explains := by decide +kernel
set_option maxRecDepth 100000 in
set_option maxHeartbeats 4000000 in
theorem tL_explains_16 {p : Program} {l : Launch} {e : Env} {s : State} {m : MethodId} {args : Array Value} {below : List Frame} {meth : Method} {c : Code} {a : Nat → Nat} {cy : Nat → ClassId} {D : va_G} {tV : Nat} {sa : Nat → Nat} (C : zC p l s m args meth c cL_explains 5 wsL_explains RL a cy D tV sa) (hr : meth.sig.returnType = (some .int)) (ht : c.exceptionTable.toList = tableOf [(0, 17, 20, 21)]) (hl : l.stackTraces = false) {k0 : Nat} {k3 : Nat} (hk0 : zk k0 = 5) (hk3 : zk k3 = 9) {P : Int → Sto → Prop} {X : Nat → Sto → Prop} : ∀ (y0 y1 : Int) (σ : Sto), vL_explains_16 k0 k3 P y0 y1 σ → zX p l e rL_explains s m args below meth c 5 a cy D (vx_MQ below (fun _ => zQo a cy D s.heap.size (zPI P)) (zXC a cy D s.heap.size X) args s 2 12 (zA a s.heap.size)) 2 12 σ 16 [] [.long (zJ y0), .int (zI y1), .ref (a k3)] := by
  intro y0 y1 σ hq
  unfold vL_explains_16 at hq
  obtain ⟨h0, h1, hq⟩ := hq
  refine zr_last C hk3 h0 h1 dL_explains_16 rfl (fun s2 es2 => ?_)
  have hq := hq s2 es2
  refine zr_goto C (tgt := 24) dL_explains_17 (by decide) ?_
  refine zr_iconst C dL_explains_24 rfl ?_
  exact zr_widen (Nat.le_of_ble_eq_true rfl) (Nat.le_of_ble_eq_true rfl) (zr_vx (zr_iret C hr dL_explains_25 ⟨_, rfl, hq⟩))
set_option maxRecDepth 100000 in
set_option maxHeartbeats 4000000 in
theorem mL_explains {l : Launch} {a : Nat → Nat} {cy : Nat → ClassId} {D : va_G} {tV : Nat} {sa : Nat → Nat} (hl : l.stackTraces = false) {P : Int → Sto → Prop} {X : Nat → Sto → Prop} {σ : Sto} {k0 : Nat} {x1 : Int} {x2 : Int} {k3 : Nat} (hk0 : zk k0 = 5) (hk3 : zk k3 = 9) (hq : vL_explains k0 x1 x2 k3 P σ) : zMX l yL_explains wsL_explains rL_explains a cy D tV sa [.ref (a k0), .int (zI x1), .int (zI x2), .ref (a k3)] σ (zPI P) X 2 12 :=
  zMXH_of (cc := cL_explains) (maxL := 5) (ret := (some .int)) (hh := [(0, 17, 20, 21)]) (by decide) rfl (Nat.le_of_ble_eq_true rfl) (L0 := [(0, .ref (a k0)), (1, .int (zI x1)), (2, .int (zI x2)), (3, .ref (a k3))]) rfl (fun p e s m args below meth c C hr ht => by
  unfold vL_explains at hq
  refine zr_aload_n C dL_explains_0 rfl (k := 3) rfl rfl ?_
  refine zr_iconst C dL_explains_1 rfl ?_
  refine zr_aload_n C dL_explains_2 rfl (k := 0) rfl rfl ?_
  refine zr_iload_n C dL_explains_3 rfl (k := 1) rfl rfl ?_
  refine zr_iload_n C dL_explains_4 rfl (k := 2) rfl rfl ?_
  refine zr_xcall (zrunVX C (st := [.int (zI 0), .ref (a k3)]) (mX6_explains hl hk0 hq) (cwV 2 C.2.2.2.2.1 gL_explains_X6_explains rfl rfl rfl (by decide +kernel) ⟨Nat.le_of_ble_eq_true rfl, Nat.le_of_ble_eq_true rfl⟩) (zE_5 hk0) (zk_lt hk0 (by decide)) (T := TX6) (N := 8) rfl rfl rfl (Nat.le_of_ble_eq_true rfl) dL_explains_5 ⟨(Nat.le_of_ble_eq_true rfl), (Nat.le_of_ble_eq_true rfl)⟩) rfl (fun i s9 H1 locs1 ls ce q9 hi hx hO hP hS hL h1 h2 h3 => ?_) (fun v s1 hv => ?_)
  · rcases (show i = 0 ∨ i = 1 ∨ i = 2 ∨ i = 3 by omega) with rfl | rfl | rfl | rfl
    · have hq := hx.1 rfl
      refine zr_catch C ht [] ⟨0, 17, 20, 21⟩ [] rfl 0 (by decide) (fun _ h => nomatch h) rfl (by decide) lL_explains_0 h1 h2 h3 ?_
      refine (?_ : zX p l e rL_explains s m args below meth c 5 a cy D (vx_MQ below (fun _ => zQo a cy D s.heap.size (zPI P)) (zXC a cy D s.heap.size X) args s 2 12 (zA a s.heap.size)) 2 12 s9 20 [(0, .ref (a k0)), (1, .int (zI x1)), (2, .int (zI x2)), (3, .ref (a k3))] [.ref q9]) H1 locs1 ls hO hP hS hL
      refine zr_astore C (L' := [(4, .ref q9), (0, .ref (a k0)), (1, .int (zI x1)), (2, .int (zI x2)), (3, .ref (a k3))]) dL_explains_20 (by decide) rfl rfl ?_
      refine zr_iconst C dL_explains_22 rfl ?_
      exact zr_widen (Nat.le_of_ble_eq_true rfl) (Nat.le_of_ble_eq_true rfl) (zr_vx (zr_iret C hr dL_explains_23 ⟨_, rfl, hq⟩))
    · exact (hx.2.1 rfl).elim
    · exact (hx.2.2.1 rfl).elim
    · exact (hx.2.2.2 rfl).elim
  · obtain ⟨r1, rfl, hq⟩ := hv
    obtain ⟨h0, hq⟩ := hq
    refine zr_if_eq C (tgt := 15) dL_explains_8 (by decide) h0 rfl (fun z => ?_) (fun z => ?_)
    · have hq := hq.1 z
      refine zr_lconst C (x := 0) dL_explains_15 rfl rfl ?_
      exact zr_widen (Nat.le_of_ble_eq_true rfl) (Nat.le_of_ble_eq_true rfl) <| zr_sub C [] rfl (tL_explains_16 C hr ht hl hk0 hk3 _ _ _ hq)
    · have hq := hq.2 z
      refine zr_lconst C (x := 1) dL_explains_11 rfl rfl ?_
      refine zr_goto C (tgt := 16) dL_explains_12 (by decide) ?_
      exact zr_widen (Nat.le_of_ble_eq_true rfl) (Nat.le_of_ble_eq_true rfl) <| zr_sub C [] rfl (tL_explains_16 C hr ht hl hk0 hk3 _ _ _ hq))
/-! InflectionGuesserLaw.explanations(LInflectionGuesser;I[J)I -/
set_option maxRecDepth 20000 in
theorem ggL_explanations_X6_explanations : GoodIn wsL_explanations wsX6_explanations := goodIn_ca (goodIn_r _ [6, 7, 8, 9, 10, 11, 5, 12, 13, 14, 15, 16, 17, 18, 19, 20, 21, 22, 23, 24, 25, 26, 27, 28, 29, 30, 31, 32, 33, 34, 35, 36, 37, 38, 39, 40, 41, 42, 43, 44, 45, 46, 47, 48, 49, 50, 51, 52, 53, 54, 55, 56, 57, 58, 59, 60, 61, 62, 63, 64, 65, 66, 67, 68, 69, 70, 71, 72, 73, 74, 75, 76, 77, 78, 79, 80, 81, 82, 83, 84, 85, 86, 87, 88, 89, 90, 91, 92, 93, 94, 95, 96, 97, 98, 99, 100, 101, 102, 103, 104, 105, 106, 107, 108, 109, 110, 111, 112, 113, 114, 115, 116, 117, 118, 119, 120, 121, 122, 123, 124, 125, 126, 127, 128, 129, 130, 131, 132, 133, 134, 135, 136, 137, 138, 139, 140, 141, 142, 143, 144, 145, 146, 147, 148, 149, 150, 151, 152, 153, 154, 155, 156, 157, 158, 159, 160, 161, 162, 163, 164, 165, 166, 167, 168, 169, 170, 171, 172, 173, 174, 175, 176, 177] (by decide +kernel) (by decide +kernel)) (goodIn_sub (fun _ h => List.mem_cons_of_mem _ (List.mem_append_right _ h)) (by decide +kernel))
set_option maxRecDepth 20000 in
theorem gL_explanations_X6_explanations : GoodIn wsL_explanations (wsV RL 83 RX6 yX6_explanations wsX6_explanations) := goodIn_app (goodIn_of _ (by decide +kernel)) ggL_explanations_X6_explanations
theorem dL_explanations_0 : decode cL_explanations 0 = .ok (.aload_n 2, 1) := by decide +kernel
theorem dL_explanations_1 : decode cL_explanations 1 = .ok (.iconst 0, 1) := by decide +kernel
theorem dL_explanations_2 : decode cL_explanations 2 = .ok (.aload_n 0, 1) := by decide +kernel
theorem dL_explanations_3 : decode cL_explanations 3 = .ok (.iload_n 1, 1) := by decide +kernel
theorem dL_explanations_4 : decode cL_explanations 4 = .ok (.invokevirtual 83, 3) := by decide +kernel
theorem dL_explanations_7 : decode cL_explanations 7 = .ok (.i2l, 1) := by decide +kernel
theorem dL_explanations_8 : decode cL_explanations 8 = .ok (.lastore, 1) := by decide +kernel
theorem dL_explanations_9 : decode cL_explanations 9 = .ok (.goto 6, 3) := by decide +kernel
theorem dL_explanations_12 : decode cL_explanations 12 = .ok (.astore_n 3, 1) := by decide +kernel
theorem dL_explanations_13 : decode cL_explanations 13 = .ok (.iconst 1, 1) := by decide +kernel
theorem dL_explanations_14 : decode cL_explanations 14 = .ok (.ireturn, 1) := by decide +kernel
theorem dL_explanations_15 : decode cL_explanations 15 = .ok (.iconst 0, 1) := by decide +kernel
theorem dL_explanations_16 : decode cL_explanations 16 = .ok (.ireturn, 1) := by decide +kernel
def rL_explanations : Room := { frames := 8, cells := 1, slots := 6, locals := 170 }
theorem lL_explanations_0 : Cond.classLink RL 21 (zEx 0) ∈ wsL_explanations := by decide +kernel
set_option maxRecDepth 100000 in
set_option maxHeartbeats 4000000 in
theorem mL_explanations {l : Launch} {a : Nat → Nat} {cy : Nat → ClassId} {D : va_G} {tV : Nat} {sa : Nat → Nat} (hl : l.stackTraces = false) {P : Int → Sto → Prop} {X : Nat → Sto → Prop} {σ : Sto} {k0 : Nat} {x1 : Int} {k2 : Nat} (hk0 : zk k0 = 5) (hk2 : zk k2 = 9) (hq : vL_explanations k0 x1 k2 P σ) : zMX l yL_explanations wsL_explanations rL_explanations a cy D tV sa [.ref (a k0), .int (zI x1), .ref (a k2)] σ (zPI P) X 1 6 :=
  zMXH_of (cc := cL_explanations) (maxL := 4) (ret := (some .int)) (hh := [(0, 9, 12, 21)]) (by decide) rfl (Nat.le_of_ble_eq_true rfl) (L0 := [(0, .ref (a k0)), (1, .int (zI x1)), (2, .ref (a k2))]) rfl (fun p e s m args below meth c C hr ht => by
  unfold vL_explanations at hq
  refine zr_aload_n C dL_explanations_0 rfl (k := 2) rfl rfl ?_
  refine zr_iconst C dL_explanations_1 rfl ?_
  refine zr_aload_n C dL_explanations_2 rfl (k := 0) rfl rfl ?_
  refine zr_iload_n C dL_explanations_3 rfl (k := 1) rfl rfl ?_
  refine zr_xcall (zrunVX C (st := [.int (zI 0), .ref (a k2)]) (mX6_explanations hl hk0 hq) (cwV 1 C.2.2.2.2.1 gL_explanations_X6_explanations rfl rfl rfl (by decide +kernel) ⟨Nat.le_of_ble_eq_true rfl, Nat.le_of_ble_eq_true rfl⟩) (zE_5 hk0) (zk_lt hk0 (by decide)) (T := TX6) (N := 8) rfl rfl rfl (Nat.le_of_ble_eq_true rfl) dL_explanations_4 ⟨(Nat.le_of_ble_eq_true rfl), (Nat.le_of_ble_eq_true rfl)⟩) rfl (fun i s9 H1 locs1 ls ce q9 hi hx hO hP hS hL h1 h2 h3 => ?_) (fun v s1 hv => ?_)
  · rcases (show i = 0 ∨ i = 1 ∨ i = 2 ∨ i = 3 by omega) with rfl | rfl | rfl | rfl
    · have hq := hx.1 rfl
      refine zr_catch C ht [] ⟨0, 9, 12, 21⟩ [] rfl 0 (by decide) (fun _ h => nomatch h) rfl (by decide) lL_explanations_0 h1 h2 h3 ?_
      refine (?_ : zX p l e rL_explanations s m args below meth c 4 a cy D (vx_MQ below (fun _ => zQo a cy D s.heap.size (zPI P)) (zXC a cy D s.heap.size X) args s 1 6 (zA a s.heap.size)) 1 6 s9 12 [(0, .ref (a k0)), (1, .int (zI x1)), (2, .ref (a k2))] [.ref q9]) H1 locs1 ls hO hP hS hL
      refine zr_astore_n C (L' := [(3, .ref q9), (0, .ref (a k0)), (1, .int (zI x1)), (2, .ref (a k2))]) dL_explanations_12 rfl (by decide) rfl rfl ?_
      refine zr_iconst C dL_explanations_13 rfl ?_
      exact zr_widen (Nat.le_of_ble_eq_true rfl) (Nat.le_of_ble_eq_true rfl) (zr_vx (zr_iret C hr dL_explanations_14 ⟨_, rfl, hq⟩))
    · exact (hx.2.1 rfl).elim
    · exact (hx.2.2.1 rfl).elim
    · exact (hx.2.2.2 rfl).elim
  · obtain ⟨r1, rfl, hq⟩ := hv
    obtain ⟨h0, hq⟩ := hq
    refine zr_i2l C dL_explanations_7 h0 rfl ?_
    obtain ⟨h0, hq⟩ := hq
    refine zr_last C hk2 (by decide) h0 dL_explanations_8 rfl (fun s2 es2 => ?_)
    have hq := hq s2 es2
    refine zr_goto C (tgt := 15) dL_explanations_9 (by decide) ?_
    refine zr_iconst C dL_explanations_15 rfl ?_
    exact zr_widen (Nat.le_of_ble_eq_true rfl) (Nat.le_of_ble_eq_true rfl) (zr_vx (zr_iret C hr dL_explanations_16 ⟨_, rfl, hq⟩)))
/-! InflectionGuesserLaw.attestedShare(LInflectionGuesser;I[D)I -/
set_option maxRecDepth 20000 in
theorem ggL_attestedShare_X6_attestedShare : GoodIn wsL_attestedShare wsX6_attestedShare := goodIn_ca (goodIn_r _ [6, 7, 8, 9, 10, 5, 11, 12, 13, 14, 15, 16, 17, 18, 19, 20, 21, 22, 23, 24, 25, 26, 27, 28, 29, 30, 31, 32, 33, 34, 35, 36, 37, 38, 39, 40, 41, 42, 43, 44, 45, 46, 47, 48, 49, 50, 51, 52, 53, 54, 55, 56, 57, 58, 59, 60, 61, 62, 63, 64, 65, 66, 67, 68, 69, 70, 71, 72, 73, 74, 75, 76, 77, 78, 79, 80, 81, 82, 83, 84, 85, 86, 87, 88, 89, 90, 91, 92, 93, 94, 95, 96, 97, 98, 99, 100, 101, 102, 103, 104, 105, 106, 107, 108, 109, 110, 111, 112, 113, 114, 115, 116, 117, 118, 119, 120, 121, 122, 123, 124, 125, 126, 127, 128, 129, 130, 131, 132, 133, 134, 135, 136, 137, 138, 139, 140, 141, 142, 143, 144, 145, 146, 147, 148, 149, 150, 151, 152, 153, 154, 155, 156, 157, 158, 159, 160, 161, 162, 163, 164, 165, 166, 167, 168, 169, 170, 171, 172, 173, 174, 175, 176, 177, 178, 179, 180, 181] (by decide +kernel) (by decide +kernel)) (goodIn_sub (fun _ h => List.mem_cons_of_mem _ (List.mem_append_right _ h)) (by decide +kernel))
set_option maxRecDepth 20000 in
theorem gL_attestedShare_X6_attestedShare : GoodIn wsL_attestedShare (wsV RL 86 RX6 yX6_attestedShare wsX6_attestedShare) := goodIn_app (goodIn_of _ (by decide +kernel)) ggL_attestedShare_X6_attestedShare
theorem dL_attestedShare_0 : decode cL_attestedShare 0 = .ok (.aload_n 2, 1) := by decide +kernel
theorem dL_attestedShare_1 : decode cL_attestedShare 1 = .ok (.iconst 0, 1) := by decide +kernel
theorem dL_attestedShare_2 : decode cL_attestedShare 2 = .ok (.aload_n 0, 1) := by decide +kernel
theorem dL_attestedShare_3 : decode cL_attestedShare 3 = .ok (.iload_n 1, 1) := by decide +kernel
theorem dL_attestedShare_4 : decode cL_attestedShare 4 = .ok (.invokevirtual 86, 3) := by decide +kernel
theorem dL_attestedShare_7 : decode cL_attestedShare 7 = .ok (.dastore, 1) := by decide +kernel
theorem dL_attestedShare_8 : decode cL_attestedShare 8 = .ok (.goto 6, 3) := by decide +kernel
theorem dL_attestedShare_11 : decode cL_attestedShare 11 = .ok (.astore_n 3, 1) := by decide +kernel
theorem dL_attestedShare_12 : decode cL_attestedShare 12 = .ok (.iconst 1, 1) := by decide +kernel
theorem dL_attestedShare_13 : decode cL_attestedShare 13 = .ok (.ireturn, 1) := by decide +kernel
theorem dL_attestedShare_14 : decode cL_attestedShare 14 = .ok (.iconst 0, 1) := by decide +kernel
theorem dL_attestedShare_15 : decode cL_attestedShare 15 = .ok (.ireturn, 1) := by decide +kernel
def rL_attestedShare : Room := { frames := 8, cells := 1, slots := 6, locals := 193 }
theorem lL_attestedShare_0 : Cond.classLink RL 21 (zEx 0) ∈ wsL_attestedShare := by decide +kernel
set_option maxRecDepth 100000 in
set_option maxHeartbeats 4000000 in
theorem mL_attestedShare {l : Launch} {a : Nat → Nat} {cy : Nat → ClassId} {D : va_G} {tV : Nat} {sa : Nat → Nat} (hl : l.stackTraces = false) {P : Int → Sto → Prop} {X : Nat → Sto → Prop} {σ : Sto} {k0 : Nat} {x1 : Int} {k2 : Nat} (hk0 : zk k0 = 5) (hk2 : zk k2 = 12) (hq : vL_attestedShare k0 x1 k2 P σ) : zMX l yL_attestedShare wsL_attestedShare rL_attestedShare a cy D tV sa [.ref (a k0), .int (zI x1), .ref (a k2)] σ (zPI P) X 1 6 :=
  zMXH_of (cc := cL_attestedShare) (maxL := 4) (ret := (some .int)) (hh := [(0, 8, 11, 21)]) (by decide) rfl (Nat.le_of_ble_eq_true rfl) (L0 := [(0, .ref (a k0)), (1, .int (zI x1)), (2, .ref (a k2))]) rfl (fun p e s m args below meth c C hr ht => by
  unfold vL_attestedShare at hq
  refine zr_aload_n C dL_attestedShare_0 rfl (k := 2) rfl rfl ?_
  refine zr_iconst C dL_attestedShare_1 rfl ?_
  refine zr_aload_n C dL_attestedShare_2 rfl (k := 0) rfl rfl ?_
  refine zr_iload_n C dL_attestedShare_3 rfl (k := 1) rfl rfl ?_
  refine zr_xcall (zrunVX C (st := [.int (zI 0), .ref (a k2)]) (mX6_attestedShare hl hk0 hq) (cwV 1 C.2.2.2.2.1 gL_attestedShare_X6_attestedShare rfl rfl rfl (by decide +kernel) ⟨Nat.le_of_ble_eq_true rfl, Nat.le_of_ble_eq_true rfl⟩) (zE_5 hk0) (zk_lt hk0 (by decide)) (T := TX6) (N := 8) rfl rfl rfl (Nat.le_of_ble_eq_true rfl) dL_attestedShare_4 ⟨(Nat.le_of_ble_eq_true rfl), (Nat.le_of_ble_eq_true rfl)⟩) rfl (fun i s9 H1 locs1 ls ce q9 hi hx hO hP hS hL h1 h2 h3 => ?_) (fun v s1 hv => ?_)
  · rcases (show i = 0 ∨ i = 1 ∨ i = 2 ∨ i = 3 by omega) with rfl | rfl | rfl | rfl
    · have hq := hx.1 rfl
      refine zr_catch C ht [] ⟨0, 8, 11, 21⟩ [] rfl 0 (by decide) (fun _ h => nomatch h) rfl (by decide) lL_attestedShare_0 h1 h2 h3 ?_
      refine (?_ : zX p l e rL_attestedShare s m args below meth c 4 a cy D (vx_MQ below (fun _ => zQo a cy D s.heap.size (zPI P)) (zXC a cy D s.heap.size X) args s 1 6 (zA a s.heap.size)) 1 6 s9 11 [(0, .ref (a k0)), (1, .int (zI x1)), (2, .ref (a k2))] [.ref q9]) H1 locs1 ls hO hP hS hL
      refine zr_astore_n C (L' := [(3, .ref q9), (0, .ref (a k0)), (1, .int (zI x1)), (2, .ref (a k2))]) dL_attestedShare_11 rfl (by decide) rfl rfl ?_
      refine zr_iconst C dL_attestedShare_12 rfl ?_
      exact zr_widen (Nat.le_of_ble_eq_true rfl) (Nat.le_of_ble_eq_true rfl) (zr_vx (zr_iret C hr dL_attestedShare_13 ⟨_, rfl, hq⟩))
    · exact (hx.2.1 rfl).elim
    · exact (hx.2.2.1 rfl).elim
    · exact (hx.2.2.2 rfl).elim
  · obtain ⟨r1, rfl, hq⟩ := hv
    obtain ⟨h0, hq⟩ := hq
    refine zr_dast C hk2 (by decide) h0 dL_attestedShare_7 rfl (fun s2 es2 => ?_)
    have hq := hq s2 es2
    refine zr_goto C (tgt := 14) dL_attestedShare_8 (by decide) ?_
    refine zr_iconst C dL_attestedShare_14 rfl ?_
    exact zr_widen (Nat.le_of_ble_eq_true rfl) (Nat.le_of_ble_eq_true rfl) (zr_vx (zr_iret C hr dL_attestedShare_15 ⟨_, rfl, hq⟩)))
/-! InflectionGuesserLaw.accept(LInflectionGuesser;I[J)I -/
set_option maxRecDepth 20000 in
theorem ggL_accept_X6_accept : GoodIn wsL_accept wsX6_accept := goodIn_ca (goodIn_ca (goodIn_r _ [7, 8, 9, 10, 11, 12, 13, 14, 15, 6, 16, 17, 18, 19, 20, 21, 22, 23, 24, 25, 26, 27, 28, 29, 30, 31, 32, 33, 34, 35, 36, 37, 38, 39, 40, 41, 42, 43, 44, 45, 46, 47, 48, 49, 50, 51, 52, 53, 54, 55, 56, 57, 58, 59, 60, 61, 62, 63, 64, 65, 66, 67, 68, 69, 70, 71, 72, 73, 74, 75, 76, 77, 78, 79, 80, 81, 82, 83, 84, 85, 86, 87, 88, 89, 90, 91, 92, 93, 94, 95, 96, 97, 98, 99, 100, 101, 102, 103, 104, 105, 106, 107, 108, 109, 110, 111, 112, 113, 114, 115, 116, 117, 118, 119, 120, 121, 122, 123, 124, 125, 126, 127, 128, 129, 130, 131, 132, 133, 134, 135, 136, 137, 138, 139, 140, 141, 142, 143, 144, 145, 146, 147, 148, 149, 150, 151, 152, 153, 154, 155, 156, 157, 158, 159, 160, 161, 162, 163, 164, 165, 166, 167, 168, 169, 170, 171, 172, 173, 174, 175, 176, 177, 178, 179, 180, 181, 182, 183, 184, 185, 186, 187, 188, 189, 190, 191, 192, 193, 194, 195, 196, 197, 198, 199, 200, 201, 202, 203, 204, 205, 206, 207, 208, 209, 210, 211, 212, 213, 214, 215, 216, 217, 218, 219, 220, 221, 222] (by decide +kernel) (by decide +kernel)) (goodIn_sub (fun _ h => List.mem_cons_of_mem _ (List.mem_append_left _ (List.mem_append_right _ h))) (by decide +kernel))) (goodIn_sub (fun _ h => List.mem_cons_of_mem _ (List.mem_append_right _ h)) (by decide +kernel))
set_option maxRecDepth 20000 in
theorem gL_accept_X6_accept : GoodIn wsL_accept (wsV RL 90 RX6 yX6_accept wsX6_accept) := goodIn_app (goodIn_of _ (by decide +kernel)) ggL_accept_X6_accept
theorem dL_accept_0 : decode cL_accept 0 = .ok (.aload_n 2, 1) := by decide +kernel
theorem dL_accept_1 : decode cL_accept 1 = .ok (.iconst 0, 1) := by decide +kernel
theorem dL_accept_2 : decode cL_accept 2 = .ok (.aload_n 0, 1) := by decide +kernel
theorem dL_accept_3 : decode cL_accept 3 = .ok (.iload_n 1, 1) := by decide +kernel
theorem dL_accept_4 : decode cL_accept 4 = .ok (.invokevirtual 90, 3) := by decide +kernel
theorem dL_accept_7 : decode cL_accept 7 = .ok (.i2l, 1) := by decide +kernel
theorem dL_accept_8 : decode cL_accept 8 = .ok (.lastore, 1) := by decide +kernel
theorem dL_accept_9 : decode cL_accept 9 = .ok (.goto 9, 3) := by decide +kernel
theorem dL_accept_12 : decode cL_accept 12 = .ok (.astore_n 3, 1) := by decide +kernel
theorem dL_accept_13 : decode cL_accept 13 = .ok (.iconst 1, 1) := by decide +kernel
theorem dL_accept_14 : decode cL_accept 14 = .ok (.ireturn, 1) := by decide +kernel
theorem dL_accept_15 : decode cL_accept 15 = .ok (.astore_n 3, 1) := by decide +kernel
theorem dL_accept_16 : decode cL_accept 16 = .ok (.iconst 2, 1) := by decide +kernel
theorem dL_accept_17 : decode cL_accept 17 = .ok (.ireturn, 1) := by decide +kernel
theorem dL_accept_18 : decode cL_accept 18 = .ok (.iconst 0, 1) := by decide +kernel
theorem dL_accept_19 : decode cL_accept 19 = .ok (.ireturn, 1) := by decide +kernel
def rL_accept : Room := { frames := 8, cells := 2, slots := 12, locals := 191 }
theorem lL_accept_0 : Cond.classLink RL 21 (zEx 0) ∈ wsL_accept := by decide +kernel
theorem lL_accept_2 : Cond.classLink RL 15 (zEx 2) ∈ wsL_accept := by decide +kernel
set_option maxRecDepth 100000 in
set_option maxHeartbeats 4000000 in
theorem mL_accept {l : Launch} {a : Nat → Nat} {cy : Nat → ClassId} {D : va_G} {tV : Nat} {sa : Nat → Nat} (hl : l.stackTraces = false) {P : Int → Sto → Prop} {X : Nat → Sto → Prop} {σ : Sto} {k0 : Nat} {x1 : Int} {k2 : Nat} (hk0 : zk k0 = 5) (hk2 : zk k2 = 9) (hq : vL_accept k0 x1 k2 P σ) : zMX l yL_accept wsL_accept rL_accept a cy D tV sa [.ref (a k0), .int (zI x1), .ref (a k2)] σ (zPI P) X 2 12 :=
  zMXH_of (cc := cL_accept) (maxL := 4) (ret := (some .int)) (hh := [(0, 9, 12, 21), (0, 9, 15, 15)]) (by decide) rfl (Nat.le_of_ble_eq_true rfl) (L0 := [(0, .ref (a k0)), (1, .int (zI x1)), (2, .ref (a k2))]) rfl (fun p e s m args below meth c C hr ht => by
  unfold vL_accept at hq
  refine zr_aload_n C dL_accept_0 rfl (k := 2) rfl rfl ?_
  refine zr_iconst C dL_accept_1 rfl ?_
  refine zr_aload_n C dL_accept_2 rfl (k := 0) rfl rfl ?_
  refine zr_iload_n C dL_accept_3 rfl (k := 1) rfl rfl ?_
  refine zr_xcall (zrunVX C (st := [.int (zI 0), .ref (a k2)]) (mX6_accept hl hk0 hq) (cwV 1 C.2.2.2.2.1 gL_accept_X6_accept rfl rfl rfl (by decide +kernel) ⟨Nat.le_of_ble_eq_true rfl, Nat.le_of_ble_eq_true rfl⟩) (zE_5 hk0) (zk_lt hk0 (by decide)) (T := TX6) (N := 8) rfl rfl rfl (Nat.le_of_ble_eq_true rfl) dL_accept_4 ⟨(Nat.le_of_ble_eq_true rfl), (Nat.le_of_ble_eq_true rfl)⟩) rfl (fun i s9 H1 locs1 ls ce q9 hi hx hO hP hS hL h1 h2 h3 => ?_) (fun v s1 hv => ?_)
  · rcases (show i = 0 ∨ i = 1 ∨ i = 2 ∨ i = 3 by omega) with rfl | rfl | rfl | rfl
    · have hq := hx.1 rfl
      refine zr_catch C ht [] ⟨0, 9, 12, 21⟩ [⟨0, 9, 15, 15⟩] rfl 0 (by decide) (fun _ h => nomatch h) rfl (by decide) lL_accept_0 h1 h2 h3 ?_
      refine (?_ : zX p l e rL_accept s m args below meth c 4 a cy D (vx_MQ below (fun _ => zQo a cy D s.heap.size (zPI P)) (zXC a cy D s.heap.size X) args s 2 12 (zA a s.heap.size)) 2 12 s9 12 [(0, .ref (a k0)), (1, .int (zI x1)), (2, .ref (a k2))] [.ref q9]) H1 locs1 ls hO hP hS hL
      refine zr_astore_n C (L' := [(3, .ref q9), (0, .ref (a k0)), (1, .int (zI x1)), (2, .ref (a k2))]) dL_accept_12 rfl (by decide) rfl rfl ?_
      refine zr_iconst C dL_accept_13 rfl ?_
      exact zr_widen (Nat.le_of_ble_eq_true rfl) (Nat.le_of_ble_eq_true rfl) (zr_vx (zr_iret C hr dL_accept_14 ⟨_, rfl, hq⟩))
    · exact (hx.2.1 rfl).elim
    · have hq := hx.2.2.1 rfl
      refine zr_catch C ht [⟨0, 9, 12, 21⟩] ⟨0, 9, 15, 15⟩ [] rfl 2 (by decide) (List.forall_mem_cons.mpr ⟨⟨by decide, 0, by decide, by decide, lL_accept_0⟩, (fun _ h => nomatch h)⟩) rfl (by decide) lL_accept_2 h1 h2 h3 ?_
      refine (?_ : zX p l e rL_accept s m args below meth c 4 a cy D (vx_MQ below (fun _ => zQo a cy D s.heap.size (zPI P)) (zXC a cy D s.heap.size X) args s 2 12 (zA a s.heap.size)) 2 12 s9 15 [(0, .ref (a k0)), (1, .int (zI x1)), (2, .ref (a k2))] [.ref q9]) H1 locs1 ls hO hP hS hL
      refine zr_astore_n C (L' := [(3, .ref q9), (0, .ref (a k0)), (1, .int (zI x1)), (2, .ref (a k2))]) dL_accept_15 rfl (by decide) rfl rfl ?_
      refine zr_iconst C dL_accept_16 rfl ?_
      exact zr_widen (Nat.le_of_ble_eq_true rfl) (Nat.le_of_ble_eq_true rfl) (zr_vx (zr_iret C hr dL_accept_17 ⟨_, rfl, hq⟩))
    · exact (hx.2.2.2 rfl).elim
  · obtain ⟨r1, rfl, hq⟩ := hv
    obtain ⟨h0, hq⟩ := hq
    refine zr_i2l C dL_accept_7 h0 rfl ?_
    obtain ⟨h0, hq⟩ := hq
    refine zr_last C hk2 (by decide) h0 dL_accept_8 rfl (fun s2 es2 => ?_)
    have hq := hq s2 es2
    refine zr_goto C (tgt := 18) dL_accept_9 (by decide) ?_
    refine zr_iconst C dL_accept_18 rfl ?_
    exact zr_widen (Nat.le_of_ble_eq_true rfl) (Nat.le_of_ble_eq_true rfl) (zr_vx (zr_iret C hr dL_accept_19 ⟨_, rfl, hq⟩)))
/-! InflectionGuesserLaw.lexeme(LInflectionGuesser;II[J)I -/
set_option maxRecDepth 20000 in
theorem ggL_lexeme_X6_lexeme : GoodIn wsL_lexeme wsX6_lexeme := goodIn_ca (goodIn_ca (goodIn_r _ [7, 8, 9, 10, 11, 12, 13, 6, 14, 15, 16, 17, 18, 19, 20, 21, 22, 23, 24, 25, 26, 27, 28, 29, 30, 31, 32, 33, 34, 35, 36, 37, 38, 39, 40, 41, 42, 43, 44, 45, 46, 47, 48, 49, 50, 51, 52, 53, 54, 55, 56, 57, 58, 59, 60, 61, 62, 63, 64, 65] (by decide +kernel) (by decide +kernel)) (goodIn_sub (fun _ h => List.mem_cons_of_mem _ (List.mem_append_left _ (List.mem_append_right _ h))) (by decide +kernel))) (goodIn_sub (fun _ h => List.mem_cons_of_mem _ (List.mem_append_right _ h)) (by decide +kernel))
set_option maxRecDepth 20000 in
theorem gL_lexeme_X6_lexeme : GoodIn wsL_lexeme (wsV RL 93 RX6 yX6_lexeme wsX6_lexeme) := goodIn_app (goodIn_of _ (by decide +kernel)) ggL_lexeme_X6_lexeme
theorem dL_lexeme_0 : decode cL_lexeme 0 = .ok (.aload_n 3, 1) := by decide +kernel
theorem dL_lexeme_1 : decode cL_lexeme 1 = .ok (.iconst 0, 1) := by decide +kernel
theorem dL_lexeme_2 : decode cL_lexeme 2 = .ok (.aload_n 0, 1) := by decide +kernel
theorem dL_lexeme_3 : decode cL_lexeme 3 = .ok (.iload_n 1, 1) := by decide +kernel
theorem dL_lexeme_4 : decode cL_lexeme 4 = .ok (.iload_n 2, 1) := by decide +kernel
theorem dL_lexeme_5 : decode cL_lexeme 5 = .ok (.invokevirtual 93, 3) := by decide +kernel
theorem dL_lexeme_8 : decode cL_lexeme 8 = .ok (.i2l, 1) := by decide +kernel
theorem dL_lexeme_9 : decode cL_lexeme 9 = .ok (.lastore, 1) := by decide +kernel
theorem dL_lexeme_10 : decode cL_lexeme 10 = .ok (.goto 11, 3) := by decide +kernel
theorem dL_lexeme_13 : decode cL_lexeme 13 = .ok (.astore 4, 2) := by decide +kernel
theorem dL_lexeme_15 : decode cL_lexeme 15 = .ok (.iconst 1, 1) := by decide +kernel
theorem dL_lexeme_16 : decode cL_lexeme 16 = .ok (.ireturn, 1) := by decide +kernel
theorem dL_lexeme_17 : decode cL_lexeme 17 = .ok (.astore 4, 2) := by decide +kernel
theorem dL_lexeme_19 : decode cL_lexeme 19 = .ok (.iconst 2, 1) := by decide +kernel
theorem dL_lexeme_20 : decode cL_lexeme 20 = .ok (.ireturn, 1) := by decide +kernel
theorem dL_lexeme_21 : decode cL_lexeme 21 = .ok (.iconst 0, 1) := by decide +kernel
theorem dL_lexeme_22 : decode cL_lexeme 22 = .ok (.ireturn, 1) := by decide +kernel
def rL_lexeme : Room := { frames := 8, cells := 2, slots := 12, locals := 133 }
theorem lL_lexeme_0 : Cond.classLink RL 21 (zEx 0) ∈ wsL_lexeme := by decide +kernel
theorem lL_lexeme_1 : Cond.classLink RL 13 (zEx 1) ∈ wsL_lexeme := by decide +kernel
set_option maxRecDepth 100000 in
set_option maxHeartbeats 4000000 in
theorem mL_lexeme {l : Launch} {a : Nat → Nat} {cy : Nat → ClassId} {D : va_G} {tV : Nat} {sa : Nat → Nat} (hl : l.stackTraces = false) {P : Int → Sto → Prop} {X : Nat → Sto → Prop} {σ : Sto} {k0 : Nat} {x1 : Int} {x2 : Int} {k3 : Nat} (hk0 : zk k0 = 5) (hk3 : zk k3 = 9) (hq : vL_lexeme k0 x1 x2 k3 P σ) : zMX l yL_lexeme wsL_lexeme rL_lexeme a cy D tV sa [.ref (a k0), .int (zI x1), .int (zI x2), .ref (a k3)] σ (zPI P) X 2 12 :=
  zMXH_of (cc := cL_lexeme) (maxL := 5) (ret := (some .int)) (hh := [(0, 10, 13, 21), (0, 10, 17, 13)]) (by decide) rfl (Nat.le_of_ble_eq_true rfl) (L0 := [(0, .ref (a k0)), (1, .int (zI x1)), (2, .int (zI x2)), (3, .ref (a k3))]) rfl (fun p e s m args below meth c C hr ht => by
  unfold vL_lexeme at hq
  refine zr_aload_n C dL_lexeme_0 rfl (k := 3) rfl rfl ?_
  refine zr_iconst C dL_lexeme_1 rfl ?_
  refine zr_aload_n C dL_lexeme_2 rfl (k := 0) rfl rfl ?_
  refine zr_iload_n C dL_lexeme_3 rfl (k := 1) rfl rfl ?_
  refine zr_iload_n C dL_lexeme_4 rfl (k := 2) rfl rfl ?_
  refine zr_xcall (zrunVX C (st := [.int (zI 0), .ref (a k3)]) (mX6_lexeme hl hk0 hq) (cwV 2 C.2.2.2.2.1 gL_lexeme_X6_lexeme rfl rfl rfl (by decide +kernel) ⟨Nat.le_of_ble_eq_true rfl, Nat.le_of_ble_eq_true rfl⟩) (zE_5 hk0) (zk_lt hk0 (by decide)) (T := TX6) (N := 8) rfl rfl rfl (Nat.le_of_ble_eq_true rfl) dL_lexeme_5 ⟨(Nat.le_of_ble_eq_true rfl), (Nat.le_of_ble_eq_true rfl)⟩) rfl (fun i s9 H1 locs1 ls ce q9 hi hx hO hP hS hL h1 h2 h3 => ?_) (fun v s1 hv => ?_)
  · rcases (show i = 0 ∨ i = 1 ∨ i = 2 ∨ i = 3 by omega) with rfl | rfl | rfl | rfl
    · have hq := hx.1 rfl
      refine zr_catch C ht [] ⟨0, 10, 13, 21⟩ [⟨0, 10, 17, 13⟩] rfl 0 (by decide) (fun _ h => nomatch h) rfl (by decide) lL_lexeme_0 h1 h2 h3 ?_
      refine (?_ : zX p l e rL_lexeme s m args below meth c 5 a cy D (vx_MQ below (fun _ => zQo a cy D s.heap.size (zPI P)) (zXC a cy D s.heap.size X) args s 2 12 (zA a s.heap.size)) 2 12 s9 13 [(0, .ref (a k0)), (1, .int (zI x1)), (2, .int (zI x2)), (3, .ref (a k3))] [.ref q9]) H1 locs1 ls hO hP hS hL
      refine zr_astore C (L' := [(4, .ref q9), (0, .ref (a k0)), (1, .int (zI x1)), (2, .int (zI x2)), (3, .ref (a k3))]) dL_lexeme_13 (by decide) rfl rfl ?_
      refine zr_iconst C dL_lexeme_15 rfl ?_
      exact zr_widen (Nat.le_of_ble_eq_true rfl) (Nat.le_of_ble_eq_true rfl) (zr_vx (zr_iret C hr dL_lexeme_16 ⟨_, rfl, hq⟩))
    · have hq := hx.2.1 rfl
      refine zr_catch C ht [⟨0, 10, 13, 21⟩] ⟨0, 10, 17, 13⟩ [] rfl 1 (by decide) (List.forall_mem_cons.mpr ⟨⟨by decide, 0, by decide, by decide, lL_lexeme_0⟩, (fun _ h => nomatch h)⟩) rfl (by decide) lL_lexeme_1 h1 h2 h3 ?_
      refine (?_ : zX p l e rL_lexeme s m args below meth c 5 a cy D (vx_MQ below (fun _ => zQo a cy D s.heap.size (zPI P)) (zXC a cy D s.heap.size X) args s 2 12 (zA a s.heap.size)) 2 12 s9 17 [(0, .ref (a k0)), (1, .int (zI x1)), (2, .int (zI x2)), (3, .ref (a k3))] [.ref q9]) H1 locs1 ls hO hP hS hL
      refine zr_astore C (L' := [(4, .ref q9), (0, .ref (a k0)), (1, .int (zI x1)), (2, .int (zI x2)), (3, .ref (a k3))]) dL_lexeme_17 (by decide) rfl rfl ?_
      refine zr_iconst C dL_lexeme_19 rfl ?_
      exact zr_widen (Nat.le_of_ble_eq_true rfl) (Nat.le_of_ble_eq_true rfl) (zr_vx (zr_iret C hr dL_lexeme_20 ⟨_, rfl, hq⟩))
    · exact (hx.2.2.1 rfl).elim
    · exact (hx.2.2.2 rfl).elim
  · obtain ⟨r1, rfl, hq⟩ := hv
    obtain ⟨h0, hq⟩ := hq
    refine zr_i2l C dL_lexeme_8 h0 rfl ?_
    obtain ⟨h0, hq⟩ := hq
    refine zr_last C hk3 (by decide) h0 dL_lexeme_9 rfl (fun s2 es2 => ?_)
    have hq := hq s2 es2
    refine zr_goto C (tgt := 21) dL_lexeme_10 (by decide) ?_
    refine zr_iconst C dL_lexeme_21 rfl ?_
    exact zr_widen (Nat.le_of_ble_eq_true rfl) (Nat.le_of_ble_eq_true rfl) (zr_vx (zr_iret C hr dL_lexeme_22 ⟨_, rfl, hq⟩)))
/-! InflectionGuesserLaw.takeStem(LInflectionGuesser;I[J)I -/
set_option maxRecDepth 20000 in
theorem ggL_takeStem_X6_takeStem : GoodIn wsL_takeStem wsX6_takeStem := goodIn_ca (goodIn_r _ [6, 7, 8, 9, 10, 11, 5, 12, 13, 14, 15, 16, 17, 18, 19, 20, 21, 22, 23, 24, 25, 26, 27, 28, 29, 30, 31, 32, 33, 34, 35, 36, 37, 38, 39, 40, 41, 42, 43, 44, 45, 46, 47, 48, 49, 50, 51, 52, 53, 54, 55, 56, 57, 58, 59, 60, 61] (by decide +kernel) (by decide +kernel)) (goodIn_sub (fun _ h => List.mem_cons_of_mem _ (List.mem_append_right _ h)) (by decide +kernel))
set_option maxRecDepth 20000 in
theorem gL_takeStem_X6_takeStem : GoodIn wsL_takeStem (wsV RL 96 RX6 yX6_takeStem wsX6_takeStem) := goodIn_app (goodIn_of _ (by decide +kernel)) ggL_takeStem_X6_takeStem
theorem dL_takeStem_0 : decode cL_takeStem 0 = .ok (.aload_n 2, 1) := by decide +kernel
theorem dL_takeStem_1 : decode cL_takeStem 1 = .ok (.iconst 0, 1) := by decide +kernel
theorem dL_takeStem_2 : decode cL_takeStem 2 = .ok (.aload_n 0, 1) := by decide +kernel
theorem dL_takeStem_3 : decode cL_takeStem 3 = .ok (.iload_n 1, 1) := by decide +kernel
theorem dL_takeStem_4 : decode cL_takeStem 4 = .ok (.invokevirtual 96, 3) := by decide +kernel
theorem dL_takeStem_7 : decode cL_takeStem 7 = .ok (.i2l, 1) := by decide +kernel
theorem dL_takeStem_8 : decode cL_takeStem 8 = .ok (.lastore, 1) := by decide +kernel
theorem dL_takeStem_9 : decode cL_takeStem 9 = .ok (.goto 6, 3) := by decide +kernel
theorem dL_takeStem_12 : decode cL_takeStem 12 = .ok (.astore_n 3, 1) := by decide +kernel
theorem dL_takeStem_13 : decode cL_takeStem 13 = .ok (.iconst 1, 1) := by decide +kernel
theorem dL_takeStem_14 : decode cL_takeStem 14 = .ok (.ireturn, 1) := by decide +kernel
theorem dL_takeStem_15 : decode cL_takeStem 15 = .ok (.iconst 0, 1) := by decide +kernel
theorem dL_takeStem_16 : decode cL_takeStem 16 = .ok (.ireturn, 1) := by decide +kernel
def rL_takeStem : Room := { frames := 8, cells := 1, slots := 6, locals := 132 }
theorem lL_takeStem_0 : Cond.classLink RL 21 (zEx 0) ∈ wsL_takeStem := by decide +kernel
set_option maxRecDepth 100000 in
set_option maxHeartbeats 4000000 in
theorem mL_takeStem {l : Launch} {a : Nat → Nat} {cy : Nat → ClassId} {D : va_G} {tV : Nat} {sa : Nat → Nat} (hl : l.stackTraces = false) {P : Int → Sto → Prop} {X : Nat → Sto → Prop} {σ : Sto} {k0 : Nat} {x1 : Int} {k2 : Nat} (hk0 : zk k0 = 5) (hk2 : zk k2 = 9) (hq : vL_takeStem k0 x1 k2 P σ) : zMX l yL_takeStem wsL_takeStem rL_takeStem a cy D tV sa [.ref (a k0), .int (zI x1), .ref (a k2)] σ (zPI P) X 1 6 :=
  zMXH_of (cc := cL_takeStem) (maxL := 4) (ret := (some .int)) (hh := [(0, 9, 12, 21)]) (by decide) rfl (Nat.le_of_ble_eq_true rfl) (L0 := [(0, .ref (a k0)), (1, .int (zI x1)), (2, .ref (a k2))]) rfl (fun p e s m args below meth c C hr ht => by
  unfold vL_takeStem at hq
  refine zr_aload_n C dL_takeStem_0 rfl (k := 2) rfl rfl ?_
  refine zr_iconst C dL_takeStem_1 rfl ?_
  refine zr_aload_n C dL_takeStem_2 rfl (k := 0) rfl rfl ?_
  refine zr_iload_n C dL_takeStem_3 rfl (k := 1) rfl rfl ?_
  refine zr_xcall (zrunVX C (st := [.int (zI 0), .ref (a k2)]) (mX6_takeStem hl hk0 hq) (cwV 1 C.2.2.2.2.1 gL_takeStem_X6_takeStem rfl rfl rfl (by decide +kernel) ⟨Nat.le_of_ble_eq_true rfl, Nat.le_of_ble_eq_true rfl⟩) (zE_5 hk0) (zk_lt hk0 (by decide)) (T := TX6) (N := 8) rfl rfl rfl (Nat.le_of_ble_eq_true rfl) dL_takeStem_4 ⟨(Nat.le_of_ble_eq_true rfl), (Nat.le_of_ble_eq_true rfl)⟩) rfl (fun i s9 H1 locs1 ls ce q9 hi hx hO hP hS hL h1 h2 h3 => ?_) (fun v s1 hv => ?_)
  · rcases (show i = 0 ∨ i = 1 ∨ i = 2 ∨ i = 3 by omega) with rfl | rfl | rfl | rfl
    · have hq := hx.1 rfl
      refine zr_catch C ht [] ⟨0, 9, 12, 21⟩ [] rfl 0 (by decide) (fun _ h => nomatch h) rfl (by decide) lL_takeStem_0 h1 h2 h3 ?_
      refine (?_ : zX p l e rL_takeStem s m args below meth c 4 a cy D (vx_MQ below (fun _ => zQo a cy D s.heap.size (zPI P)) (zXC a cy D s.heap.size X) args s 1 6 (zA a s.heap.size)) 1 6 s9 12 [(0, .ref (a k0)), (1, .int (zI x1)), (2, .ref (a k2))] [.ref q9]) H1 locs1 ls hO hP hS hL
      refine zr_astore_n C (L' := [(3, .ref q9), (0, .ref (a k0)), (1, .int (zI x1)), (2, .ref (a k2))]) dL_takeStem_12 rfl (by decide) rfl rfl ?_
      refine zr_iconst C dL_takeStem_13 rfl ?_
      exact zr_widen (Nat.le_of_ble_eq_true rfl) (Nat.le_of_ble_eq_true rfl) (zr_vx (zr_iret C hr dL_takeStem_14 ⟨_, rfl, hq⟩))
    · exact (hx.2.1 rfl).elim
    · exact (hx.2.2.1 rfl).elim
    · exact (hx.2.2.2 rfl).elim
  · obtain ⟨r1, rfl, hq⟩ := hv
    obtain ⟨h0, hq⟩ := hq
    refine zr_i2l C dL_takeStem_7 h0 rfl ?_
    obtain ⟨h0, hq⟩ := hq
    refine zr_last C hk2 (by decide) h0 dL_takeStem_8 rfl (fun s2 es2 => ?_)
    have hq := hq s2 es2
    refine zr_goto C (tgt := 15) dL_takeStem_9 (by decide) ?_
    refine zr_iconst C dL_takeStem_15 rfl ?_
    exact zr_widen (Nat.le_of_ble_eq_true rfl) (Nat.le_of_ble_eq_true rfl) (zr_vx (zr_iret C hr dL_takeStem_16 ⟨_, rfl, hq⟩)))
/-! InflectionGuesserLaw.setException(LInflectionGuesser;II[J)I -/
set_option maxRecDepth 20000 in
theorem ggL_setException_X6_setException : GoodIn wsL_setException wsX6_setException := goodIn_ca (goodIn_ca (goodIn_r _ [7, 8, 9, 10, 11, 12, 13, 14, 15, 6, 16, 17, 18, 19, 20, 21, 22, 23, 24, 25, 26, 27, 28, 29, 30, 31, 32, 33, 34, 35, 36, 37, 38, 39, 40, 41, 42, 43, 44, 45, 46, 47, 48, 49, 50, 51, 52, 53, 54, 55, 56, 57, 58, 59, 60, 61, 62, 63, 64, 65, 66, 67, 68, 69, 70, 71, 72, 73, 74, 75, 76, 77, 78, 79, 80, 81, 82, 83, 84, 85, 86, 87, 88, 89, 90, 91, 92, 93, 94, 95, 96, 97, 98, 99, 100, 101, 102, 103, 104, 105, 106, 107, 108, 109, 110, 111, 112, 113, 114, 115, 116, 117, 118, 119, 120, 121, 122, 123, 124, 125, 126, 127, 128, 129, 130, 131] (by decide +kernel) (by decide +kernel)) (goodIn_sub (fun _ h => List.mem_cons_of_mem _ (List.mem_append_left _ (List.mem_append_right _ h))) (by decide +kernel))) (goodIn_sub (fun _ h => List.mem_cons_of_mem _ (List.mem_append_right _ h)) (by decide +kernel))
set_option maxRecDepth 20000 in
theorem gL_setException_X6_setException : GoodIn wsL_setException (wsV RL 99 RX6 yX6_setException wsX6_setException) := goodIn_app (goodIn_of _ (by decide +kernel)) ggL_setException_X6_setException
theorem dL_setException_0 : decode cL_setException 0 = .ok (.aload_n 3, 1) := by decide +kernel
theorem dL_setException_1 : decode cL_setException 1 = .ok (.iconst 0, 1) := by decide +kernel
theorem dL_setException_2 : decode cL_setException 2 = .ok (.aload_n 0, 1) := by decide +kernel
theorem dL_setException_3 : decode cL_setException 3 = .ok (.iload_n 1, 1) := by decide +kernel
theorem dL_setException_4 : decode cL_setException 4 = .ok (.iload_n 2, 1) := by decide +kernel
theorem dL_setException_5 : decode cL_setException 5 = .ok (.invokevirtual 99, 3) := by decide +kernel
theorem dL_setException_8 : decode cL_setException 8 = .ok (.i2l, 1) := by decide +kernel
theorem dL_setException_9 : decode cL_setException 9 = .ok (.lastore, 1) := by decide +kernel
theorem dL_setException_10 : decode cL_setException 10 = .ok (.goto 11, 3) := by decide +kernel
theorem dL_setException_13 : decode cL_setException 13 = .ok (.astore 4, 2) := by decide +kernel
theorem dL_setException_15 : decode cL_setException 15 = .ok (.iconst 1, 1) := by decide +kernel
theorem dL_setException_16 : decode cL_setException 16 = .ok (.ireturn, 1) := by decide +kernel
theorem dL_setException_17 : decode cL_setException 17 = .ok (.astore 4, 2) := by decide +kernel
theorem dL_setException_19 : decode cL_setException 19 = .ok (.iconst 2, 1) := by decide +kernel
theorem dL_setException_20 : decode cL_setException 20 = .ok (.ireturn, 1) := by decide +kernel
theorem dL_setException_21 : decode cL_setException 21 = .ok (.iconst 0, 1) := by decide +kernel
theorem dL_setException_22 : decode cL_setException 22 = .ok (.ireturn, 1) := by decide +kernel
def rL_setException : Room := { frames := 10, cells := 4, slots := 24, locals := 177 }
theorem lL_setException_0 : Cond.classLink RL 21 (zEx 0) ∈ wsL_setException := by decide +kernel
theorem lL_setException_1 : Cond.classLink RL 13 (zEx 1) ∈ wsL_setException := by decide +kernel
set_option maxRecDepth 100000 in
set_option maxHeartbeats 4000000 in
theorem mL_setException {l : Launch} {a : Nat → Nat} {cy : Nat → ClassId} {D : va_G} {tV : Nat} {sa : Nat → Nat} (hl : l.stackTraces = false) {P : Int → Sto → Prop} {X : Nat → Sto → Prop} {σ : Sto} {k0 : Nat} {x1 : Int} {x2 : Int} {k3 : Nat} (hk0 : zk k0 = 5) (hk3 : zk k3 = 9) (hq : vL_setException k0 x1 x2 k3 P σ) : zMX l yL_setException wsL_setException rL_setException a cy D tV sa [.ref (a k0), .int (zI x1), .int (zI x2), .ref (a k3)] σ (zPI P) X 4 24 :=
  zMXH_of (cc := cL_setException) (maxL := 5) (ret := (some .int)) (hh := [(0, 10, 13, 21), (0, 10, 17, 13)]) (by decide) rfl (Nat.le_of_ble_eq_true rfl) (L0 := [(0, .ref (a k0)), (1, .int (zI x1)), (2, .int (zI x2)), (3, .ref (a k3))]) rfl (fun p e s m args below meth c C hr ht => by
  unfold vL_setException at hq
  refine zr_aload_n C dL_setException_0 rfl (k := 3) rfl rfl ?_
  refine zr_iconst C dL_setException_1 rfl ?_
  refine zr_aload_n C dL_setException_2 rfl (k := 0) rfl rfl ?_
  refine zr_iload_n C dL_setException_3 rfl (k := 1) rfl rfl ?_
  refine zr_iload_n C dL_setException_4 rfl (k := 2) rfl rfl ?_
  refine zr_xcall (zrunVX C (st := [.int (zI 0), .ref (a k3)]) (mX6_setException hl hk0 hq) (cwV 2 C.2.2.2.2.1 gL_setException_X6_setException rfl rfl rfl (by decide +kernel) ⟨Nat.le_of_ble_eq_true rfl, Nat.le_of_ble_eq_true rfl⟩) (zE_5 hk0) (zk_lt hk0 (by decide)) (T := TX6) (N := 8) rfl rfl rfl (Nat.le_of_ble_eq_true rfl) dL_setException_5 ⟨(Nat.le_of_ble_eq_true rfl), (Nat.le_of_ble_eq_true rfl)⟩) rfl (fun i s9 H1 locs1 ls ce q9 hi hx hO hP hS hL h1 h2 h3 => ?_) (fun v s1 hv => ?_)
  · rcases (show i = 0 ∨ i = 1 ∨ i = 2 ∨ i = 3 by omega) with rfl | rfl | rfl | rfl
    · have hq := hx.1 rfl
      refine zr_catch C ht [] ⟨0, 10, 13, 21⟩ [⟨0, 10, 17, 13⟩] rfl 0 (by decide) (fun _ h => nomatch h) rfl (by decide) lL_setException_0 h1 h2 h3 ?_
      refine (?_ : zX p l e rL_setException s m args below meth c 5 a cy D (vx_MQ below (fun _ => zQo a cy D s.heap.size (zPI P)) (zXC a cy D s.heap.size X) args s 4 24 (zA a s.heap.size)) 4 24 s9 13 [(0, .ref (a k0)), (1, .int (zI x1)), (2, .int (zI x2)), (3, .ref (a k3))] [.ref q9]) H1 locs1 ls hO hP hS hL
      refine zr_astore C (L' := [(4, .ref q9), (0, .ref (a k0)), (1, .int (zI x1)), (2, .int (zI x2)), (3, .ref (a k3))]) dL_setException_13 (by decide) rfl rfl ?_
      refine zr_iconst C dL_setException_15 rfl ?_
      exact zr_widen (Nat.le_of_ble_eq_true rfl) (Nat.le_of_ble_eq_true rfl) (zr_vx (zr_iret C hr dL_setException_16 ⟨_, rfl, hq⟩))
    · have hq := hx.2.1 rfl
      refine zr_catch C ht [⟨0, 10, 13, 21⟩] ⟨0, 10, 17, 13⟩ [] rfl 1 (by decide) (List.forall_mem_cons.mpr ⟨⟨by decide, 0, by decide, by decide, lL_setException_0⟩, (fun _ h => nomatch h)⟩) rfl (by decide) lL_setException_1 h1 h2 h3 ?_
      refine (?_ : zX p l e rL_setException s m args below meth c 5 a cy D (vx_MQ below (fun _ => zQo a cy D s.heap.size (zPI P)) (zXC a cy D s.heap.size X) args s 4 24 (zA a s.heap.size)) 4 24 s9 17 [(0, .ref (a k0)), (1, .int (zI x1)), (2, .int (zI x2)), (3, .ref (a k3))] [.ref q9]) H1 locs1 ls hO hP hS hL
      refine zr_astore C (L' := [(4, .ref q9), (0, .ref (a k0)), (1, .int (zI x1)), (2, .int (zI x2)), (3, .ref (a k3))]) dL_setException_17 (by decide) rfl rfl ?_
      refine zr_iconst C dL_setException_19 rfl ?_
      exact zr_widen (Nat.le_of_ble_eq_true rfl) (Nat.le_of_ble_eq_true rfl) (zr_vx (zr_iret C hr dL_setException_20 ⟨_, rfl, hq⟩))
    · exact (hx.2.2.1 rfl).elim
    · exact (hx.2.2.2 rfl).elim
  · obtain ⟨r1, rfl, hq⟩ := hv
    obtain ⟨h0, hq⟩ := hq
    refine zr_i2l C dL_setException_8 h0 rfl ?_
    obtain ⟨h0, hq⟩ := hq
    refine zr_last C hk3 (by decide) h0 dL_setException_9 rfl (fun s2 es2 => ?_)
    have hq := hq s2 es2
    refine zr_goto C (tgt := 21) dL_setException_10 (by decide) ?_
    refine zr_iconst C dL_setException_21 rfl ?_
    exact zr_widen (Nat.le_of_ble_eq_true rfl) (Nat.le_of_ble_eq_true rfl) (zr_vx (zr_iret C hr dL_setException_22 ⟨_, rfl, hq⟩)))
/-! InflectionGuesserLaw.clearException(LInflectionGuesser;II[J)I -/
set_option maxRecDepth 20000 in
theorem ggL_clearException_X6_clearException : GoodIn wsL_clearException wsX6_clearException := goodIn_ca (goodIn_ca (goodIn_r _ [7, 8, 9, 10, 11, 12, 13, 14, 6, 15, 16, 17, 18, 19, 20, 21, 22, 23, 24, 25, 26, 27, 28, 29, 30, 31, 32, 33, 34, 35, 36, 37, 38, 39, 40, 41, 42, 43, 44, 45, 46, 47, 48, 49, 50, 51, 52, 53, 54, 55, 56, 57, 58, 59, 60, 61, 62, 63, 64, 65, 66, 67, 68, 69, 70, 71, 72, 73, 74, 75, 76, 77, 78, 79, 80, 81, 82, 83, 84, 85, 86, 87, 88, 89, 90, 91, 92, 93, 94, 95, 96, 97, 98, 99, 100, 101, 102, 103, 104, 105, 106, 107, 108, 109, 110, 111, 112, 113, 114, 115, 116, 117, 118, 119, 120, 121] (by decide +kernel) (by decide +kernel)) (goodIn_sub (fun _ h => List.mem_cons_of_mem _ (List.mem_append_left _ (List.mem_append_right _ h))) (by decide +kernel))) (goodIn_sub (fun _ h => List.mem_cons_of_mem _ (List.mem_append_right _ h)) (by decide +kernel))
set_option maxRecDepth 20000 in
theorem gL_clearException_X6_clearException : GoodIn wsL_clearException (wsV RL 102 RX6 yX6_clearException wsX6_clearException) := goodIn_app (goodIn_of _ (by decide +kernel)) ggL_clearException_X6_clearException
theorem dL_clearException_0 : decode cL_clearException 0 = .ok (.aload_n 3, 1) := by decide +kernel
theorem dL_clearException_1 : decode cL_clearException 1 = .ok (.iconst 0, 1) := by decide +kernel
theorem dL_clearException_2 : decode cL_clearException 2 = .ok (.aload_n 0, 1) := by decide +kernel
theorem dL_clearException_3 : decode cL_clearException 3 = .ok (.iload_n 1, 1) := by decide +kernel
theorem dL_clearException_4 : decode cL_clearException 4 = .ok (.iload_n 2, 1) := by decide +kernel
theorem dL_clearException_5 : decode cL_clearException 5 = .ok (.invokevirtual 102, 3) := by decide +kernel
theorem dL_clearException_8 : decode cL_clearException 8 = .ok (.i2l, 1) := by decide +kernel
theorem dL_clearException_9 : decode cL_clearException 9 = .ok (.lastore, 1) := by decide +kernel
theorem dL_clearException_10 : decode cL_clearException 10 = .ok (.goto 11, 3) := by decide +kernel
theorem dL_clearException_13 : decode cL_clearException 13 = .ok (.astore 4, 2) := by decide +kernel
theorem dL_clearException_15 : decode cL_clearException 15 = .ok (.iconst 1, 1) := by decide +kernel
theorem dL_clearException_16 : decode cL_clearException 16 = .ok (.ireturn, 1) := by decide +kernel
theorem dL_clearException_17 : decode cL_clearException 17 = .ok (.astore 4, 2) := by decide +kernel
theorem dL_clearException_19 : decode cL_clearException 19 = .ok (.iconst 2, 1) := by decide +kernel
theorem dL_clearException_20 : decode cL_clearException 20 = .ok (.ireturn, 1) := by decide +kernel
theorem dL_clearException_21 : decode cL_clearException 21 = .ok (.iconst 0, 1) := by decide +kernel
theorem dL_clearException_22 : decode cL_clearException 22 = .ok (.ireturn, 1) := by decide +kernel
def rL_clearException : Room := { frames := 10, cells := 4, slots := 24, locals := 177 }
theorem lL_clearException_0 : Cond.classLink RL 21 (zEx 0) ∈ wsL_clearException := by decide +kernel
theorem lL_clearException_3 : Cond.classLink RL 35 (zEx 3) ∈ wsL_clearException := by decide +kernel
set_option maxRecDepth 100000 in
set_option maxHeartbeats 4000000 in
theorem mL_clearException {l : Launch} {a : Nat → Nat} {cy : Nat → ClassId} {D : va_G} {tV : Nat} {sa : Nat → Nat} (hl : l.stackTraces = false) {P : Int → Sto → Prop} {X : Nat → Sto → Prop} {σ : Sto} {k0 : Nat} {x1 : Int} {x2 : Int} {k3 : Nat} (hk0 : zk k0 = 5) (hk3 : zk k3 = 9) (hq : vL_clearException k0 x1 x2 k3 P σ) : zMX l yL_clearException wsL_clearException rL_clearException a cy D tV sa [.ref (a k0), .int (zI x1), .int (zI x2), .ref (a k3)] σ (zPI P) X 4 24 :=
  zMXH_of (cc := cL_clearException) (maxL := 5) (ret := (some .int)) (hh := [(0, 10, 13, 21), (0, 10, 17, 35)]) (by decide) rfl (Nat.le_of_ble_eq_true rfl) (L0 := [(0, .ref (a k0)), (1, .int (zI x1)), (2, .int (zI x2)), (3, .ref (a k3))]) rfl (fun p e s m args below meth c C hr ht => by
  unfold vL_clearException at hq
  refine zr_aload_n C dL_clearException_0 rfl (k := 3) rfl rfl ?_
  refine zr_iconst C dL_clearException_1 rfl ?_
  refine zr_aload_n C dL_clearException_2 rfl (k := 0) rfl rfl ?_
  refine zr_iload_n C dL_clearException_3 rfl (k := 1) rfl rfl ?_
  refine zr_iload_n C dL_clearException_4 rfl (k := 2) rfl rfl ?_
  refine zr_xcall (zrunVX C (st := [.int (zI 0), .ref (a k3)]) (mX6_clearException hl hk0 hq) (cwV 2 C.2.2.2.2.1 gL_clearException_X6_clearException rfl rfl rfl (by decide +kernel) ⟨Nat.le_of_ble_eq_true rfl, Nat.le_of_ble_eq_true rfl⟩) (zE_5 hk0) (zk_lt hk0 (by decide)) (T := TX6) (N := 8) rfl rfl rfl (Nat.le_of_ble_eq_true rfl) dL_clearException_5 ⟨(Nat.le_of_ble_eq_true rfl), (Nat.le_of_ble_eq_true rfl)⟩) rfl (fun i s9 H1 locs1 ls ce q9 hi hx hO hP hS hL h1 h2 h3 => ?_) (fun v s1 hv => ?_)
  · rcases (show i = 0 ∨ i = 1 ∨ i = 2 ∨ i = 3 by omega) with rfl | rfl | rfl | rfl
    · have hq := hx.1 rfl
      refine zr_catch C ht [] ⟨0, 10, 13, 21⟩ [⟨0, 10, 17, 35⟩] rfl 0 (by decide) (fun _ h => nomatch h) rfl (by decide) lL_clearException_0 h1 h2 h3 ?_
      refine (?_ : zX p l e rL_clearException s m args below meth c 5 a cy D (vx_MQ below (fun _ => zQo a cy D s.heap.size (zPI P)) (zXC a cy D s.heap.size X) args s 4 24 (zA a s.heap.size)) 4 24 s9 13 [(0, .ref (a k0)), (1, .int (zI x1)), (2, .int (zI x2)), (3, .ref (a k3))] [.ref q9]) H1 locs1 ls hO hP hS hL
      refine zr_astore C (L' := [(4, .ref q9), (0, .ref (a k0)), (1, .int (zI x1)), (2, .int (zI x2)), (3, .ref (a k3))]) dL_clearException_13 (by decide) rfl rfl ?_
      refine zr_iconst C dL_clearException_15 rfl ?_
      exact zr_widen (Nat.le_of_ble_eq_true rfl) (Nat.le_of_ble_eq_true rfl) (zr_vx (zr_iret C hr dL_clearException_16 ⟨_, rfl, hq⟩))
    · exact (hx.2.1 rfl).elim
    · exact (hx.2.2.1 rfl).elim
    · have hq := hx.2.2.2 rfl
      refine zr_catch C ht [⟨0, 10, 13, 21⟩] ⟨0, 10, 17, 35⟩ [] rfl 3 (by decide) (List.forall_mem_cons.mpr ⟨⟨by decide, 0, by decide, by decide, lL_clearException_0⟩, (fun _ h => nomatch h)⟩) rfl (by decide) lL_clearException_3 h1 h2 h3 ?_
      refine (?_ : zX p l e rL_clearException s m args below meth c 5 a cy D (vx_MQ below (fun _ => zQo a cy D s.heap.size (zPI P)) (zXC a cy D s.heap.size X) args s 4 24 (zA a s.heap.size)) 4 24 s9 17 [(0, .ref (a k0)), (1, .int (zI x1)), (2, .int (zI x2)), (3, .ref (a k3))] [.ref q9]) H1 locs1 ls hO hP hS hL
      refine zr_astore C (L' := [(4, .ref q9), (0, .ref (a k0)), (1, .int (zI x1)), (2, .int (zI x2)), (3, .ref (a k3))]) dL_clearException_17 (by decide) rfl rfl ?_
      refine zr_iconst C dL_clearException_19 rfl ?_
      exact zr_widen (Nat.le_of_ble_eq_true rfl) (Nat.le_of_ble_eq_true rfl) (zr_vx (zr_iret C hr dL_clearException_20 ⟨_, rfl, hq⟩))
  · obtain ⟨r1, rfl, hq⟩ := hv
    obtain ⟨h0, hq⟩ := hq
    refine zr_i2l C dL_clearException_8 h0 rfl ?_
    obtain ⟨h0, hq⟩ := hq
    refine zr_last C hk3 (by decide) h0 dL_clearException_9 rfl (fun s2 es2 => ?_)
    have hq := hq s2 es2
    refine zr_goto C (tgt := 21) dL_clearException_10 (by decide) ?_
    refine zr_iconst C dL_clearException_21 rfl ?_
    exact zr_widen (Nat.le_of_ble_eq_true rfl) (Nat.le_of_ble_eq_true rfl) (zr_vx (zr_iret C hr dL_clearException_22 ⟨_, rfl, hq⟩)))
/-! InflectionGuesserLaw.takeForm(LInflectionGuesser;II[J)I -/
set_option maxRecDepth 20000 in
theorem ggL_takeForm_X6_takeForm : GoodIn wsL_takeForm wsX6_takeForm := goodIn_ca (goodIn_ca (goodIn_r _ [7, 8, 9, 10, 6, 11, 12, 13, 14, 15, 16, 17, 18, 19, 20, 21, 22, 23, 24, 25, 26, 27, 28, 29, 30, 31, 32, 33, 34, 35, 36, 37, 38, 39, 40, 41, 42, 43, 44, 45, 46, 47, 48, 49, 50, 51, 52, 53, 54, 55, 56, 57, 58, 59, 60, 61, 62, 63, 64, 65, 66, 67, 68, 69, 70, 71, 72, 73, 74, 75, 76, 77, 78, 79, 80, 81, 82, 83, 84, 85, 86, 87, 88, 89, 90, 91, 92, 93, 94, 95, 96, 97, 98, 99, 100, 101, 102, 103, 104, 105, 106, 107, 108, 109, 110, 111, 112, 113, 114, 115, 116, 117, 118, 119, 120, 121, 122, 123, 124, 125, 126, 127, 128, 129, 130, 131, 132, 133, 134, 135, 136, 137, 138, 139, 140, 141, 142, 143, 144, 145, 146, 147] (by decide +kernel) (by decide +kernel)) (goodIn_sub (fun _ h => List.mem_cons_of_mem _ (List.mem_append_left _ (List.mem_append_right _ h))) (by decide +kernel))) (goodIn_sub (fun _ h => List.mem_cons_of_mem _ (List.mem_append_right _ h)) (by decide +kernel))
set_option maxRecDepth 20000 in
theorem gL_takeForm_X6_takeForm : GoodIn wsL_takeForm (wsV RL 105 RX6 yX6_takeForm wsX6_takeForm) := goodIn_app (goodIn_of _ (by decide +kernel)) ggL_takeForm_X6_takeForm
theorem dL_takeForm_0 : decode cL_takeForm 0 = .ok (.aload_n 3, 1) := by decide +kernel
theorem dL_takeForm_1 : decode cL_takeForm 1 = .ok (.iconst 0, 1) := by decide +kernel
theorem dL_takeForm_2 : decode cL_takeForm 2 = .ok (.aload_n 0, 1) := by decide +kernel
theorem dL_takeForm_3 : decode cL_takeForm 3 = .ok (.iload_n 1, 1) := by decide +kernel
theorem dL_takeForm_4 : decode cL_takeForm 4 = .ok (.iload_n 2, 1) := by decide +kernel
theorem dL_takeForm_5 : decode cL_takeForm 5 = .ok (.invokevirtual 105, 3) := by decide +kernel
theorem dL_takeForm_8 : decode cL_takeForm 8 = .ok (.i2l, 1) := by decide +kernel
theorem dL_takeForm_9 : decode cL_takeForm 9 = .ok (.lastore, 1) := by decide +kernel
theorem dL_takeForm_10 : decode cL_takeForm 10 = .ok (.goto 11, 3) := by decide +kernel
theorem dL_takeForm_13 : decode cL_takeForm 13 = .ok (.astore 4, 2) := by decide +kernel
theorem dL_takeForm_15 : decode cL_takeForm 15 = .ok (.iconst 1, 1) := by decide +kernel
theorem dL_takeForm_16 : decode cL_takeForm 16 = .ok (.ireturn, 1) := by decide +kernel
theorem dL_takeForm_17 : decode cL_takeForm 17 = .ok (.astore 4, 2) := by decide +kernel
theorem dL_takeForm_19 : decode cL_takeForm 19 = .ok (.iconst 2, 1) := by decide +kernel
theorem dL_takeForm_20 : decode cL_takeForm 20 = .ok (.ireturn, 1) := by decide +kernel
theorem dL_takeForm_21 : decode cL_takeForm 21 = .ok (.iconst 0, 1) := by decide +kernel
theorem dL_takeForm_22 : decode cL_takeForm 22 = .ok (.ireturn, 1) := by decide +kernel
def rL_takeForm : Room := { frames := 10, cells := 4, slots := 24, locals := 178 }
theorem lL_takeForm_0 : Cond.classLink RL 21 (zEx 0) ∈ wsL_takeForm := by decide +kernel
theorem lL_takeForm_3 : Cond.classLink RL 35 (zEx 3) ∈ wsL_takeForm := by decide +kernel
set_option maxRecDepth 100000 in
set_option maxHeartbeats 4000000 in
theorem mL_takeForm {l : Launch} {a : Nat → Nat} {cy : Nat → ClassId} {D : va_G} {tV : Nat} {sa : Nat → Nat} (hl : l.stackTraces = false) {P : Int → Sto → Prop} {X : Nat → Sto → Prop} {σ : Sto} {k0 : Nat} {x1 : Int} {x2 : Int} {k3 : Nat} (hk0 : zk k0 = 5) (hk3 : zk k3 = 9) (hq : vL_takeForm k0 x1 x2 k3 P σ) : zMX l yL_takeForm wsL_takeForm rL_takeForm a cy D tV sa [.ref (a k0), .int (zI x1), .int (zI x2), .ref (a k3)] σ (zPI P) X 4 24 :=
  zMXH_of (cc := cL_takeForm) (maxL := 5) (ret := (some .int)) (hh := [(0, 10, 13, 21), (0, 10, 17, 35)]) (by decide) rfl (Nat.le_of_ble_eq_true rfl) (L0 := [(0, .ref (a k0)), (1, .int (zI x1)), (2, .int (zI x2)), (3, .ref (a k3))]) rfl (fun p e s m args below meth c C hr ht => by
  unfold vL_takeForm at hq
  refine zr_aload_n C dL_takeForm_0 rfl (k := 3) rfl rfl ?_
  refine zr_iconst C dL_takeForm_1 rfl ?_
  refine zr_aload_n C dL_takeForm_2 rfl (k := 0) rfl rfl ?_
  refine zr_iload_n C dL_takeForm_3 rfl (k := 1) rfl rfl ?_
  refine zr_iload_n C dL_takeForm_4 rfl (k := 2) rfl rfl ?_
  refine zr_xcall (zrunVX C (st := [.int (zI 0), .ref (a k3)]) (mX6_takeForm hl hk0 hq) (cwV 2 C.2.2.2.2.1 gL_takeForm_X6_takeForm rfl rfl rfl (by decide +kernel) ⟨Nat.le_of_ble_eq_true rfl, Nat.le_of_ble_eq_true rfl⟩) (zE_5 hk0) (zk_lt hk0 (by decide)) (T := TX6) (N := 8) rfl rfl rfl (Nat.le_of_ble_eq_true rfl) dL_takeForm_5 ⟨(Nat.le_of_ble_eq_true rfl), (Nat.le_of_ble_eq_true rfl)⟩) rfl (fun i s9 H1 locs1 ls ce q9 hi hx hO hP hS hL h1 h2 h3 => ?_) (fun v s1 hv => ?_)
  · rcases (show i = 0 ∨ i = 1 ∨ i = 2 ∨ i = 3 by omega) with rfl | rfl | rfl | rfl
    · have hq := hx.1 rfl
      refine zr_catch C ht [] ⟨0, 10, 13, 21⟩ [⟨0, 10, 17, 35⟩] rfl 0 (by decide) (fun _ h => nomatch h) rfl (by decide) lL_takeForm_0 h1 h2 h3 ?_
      refine (?_ : zX p l e rL_takeForm s m args below meth c 5 a cy D (vx_MQ below (fun _ => zQo a cy D s.heap.size (zPI P)) (zXC a cy D s.heap.size X) args s 4 24 (zA a s.heap.size)) 4 24 s9 13 [(0, .ref (a k0)), (1, .int (zI x1)), (2, .int (zI x2)), (3, .ref (a k3))] [.ref q9]) H1 locs1 ls hO hP hS hL
      refine zr_astore C (L' := [(4, .ref q9), (0, .ref (a k0)), (1, .int (zI x1)), (2, .int (zI x2)), (3, .ref (a k3))]) dL_takeForm_13 (by decide) rfl rfl ?_
      refine zr_iconst C dL_takeForm_15 rfl ?_
      exact zr_widen (Nat.le_of_ble_eq_true rfl) (Nat.le_of_ble_eq_true rfl) (zr_vx (zr_iret C hr dL_takeForm_16 ⟨_, rfl, hq⟩))
    · exact (hx.2.1 rfl).elim
    · exact (hx.2.2.1 rfl).elim
    · have hq := hx.2.2.2 rfl
      refine zr_catch C ht [⟨0, 10, 13, 21⟩] ⟨0, 10, 17, 35⟩ [] rfl 3 (by decide) (List.forall_mem_cons.mpr ⟨⟨by decide, 0, by decide, by decide, lL_takeForm_0⟩, (fun _ h => nomatch h)⟩) rfl (by decide) lL_takeForm_3 h1 h2 h3 ?_
      refine (?_ : zX p l e rL_takeForm s m args below meth c 5 a cy D (vx_MQ below (fun _ => zQo a cy D s.heap.size (zPI P)) (zXC a cy D s.heap.size X) args s 4 24 (zA a s.heap.size)) 4 24 s9 17 [(0, .ref (a k0)), (1, .int (zI x1)), (2, .int (zI x2)), (3, .ref (a k3))] [.ref q9]) H1 locs1 ls hO hP hS hL
      refine zr_astore C (L' := [(4, .ref q9), (0, .ref (a k0)), (1, .int (zI x1)), (2, .int (zI x2)), (3, .ref (a k3))]) dL_takeForm_17 (by decide) rfl rfl ?_
      refine zr_iconst C dL_takeForm_19 rfl ?_
      exact zr_widen (Nat.le_of_ble_eq_true rfl) (Nat.le_of_ble_eq_true rfl) (zr_vx (zr_iret C hr dL_takeForm_20 ⟨_, rfl, hq⟩))
  · obtain ⟨r1, rfl, hq⟩ := hv
    obtain ⟨h0, hq⟩ := hq
    refine zr_i2l C dL_takeForm_8 h0 rfl ?_
    obtain ⟨h0, hq⟩ := hq
    refine zr_last C hk3 (by decide) h0 dL_takeForm_9 rfl (fun s2 es2 => ?_)
    have hq := hq s2 es2
    refine zr_goto C (tgt := 21) dL_takeForm_10 (by decide) ?_
    refine zr_iconst C dL_takeForm_21 rfl ?_
    exact zr_widen (Nat.le_of_ble_eq_true rfl) (Nat.le_of_ble_eq_true rfl) (zr_vx (zr_iret C hr dL_takeForm_22 ⟨_, rfl, hq⟩)))
/-! InflectionGuesserLaw.hasForm(LInflectionGuesser;II[J)I -/
set_option maxRecDepth 20000 in
theorem ggL_hasForm_X6_hasForm : GoodIn wsL_hasForm wsX6_hasForm := goodIn_ca (goodIn_r _ [6, 7, 8, 9, 5, 10, 11, 12, 13, 14, 15, 16, 17, 18, 19, 20, 21, 22, 23, 24, 25, 26, 27, 28, 29, 30, 31, 32, 33, 34, 35, 36, 37, 38, 39, 40, 41, 42, 43, 44, 45, 46, 47, 48, 49, 50, 51, 52, 53, 54, 55, 56, 57, 58, 59, 60, 61, 62, 63, 64, 65, 66, 67, 68, 69, 70, 71, 72, 73, 74, 75, 76, 77, 78, 79, 80, 81, 82, 83, 84, 85, 86, 87, 88, 89, 90, 91, 92, 93, 94, 95, 96, 97, 98, 99, 100, 101, 102, 103, 104, 105, 106, 107, 108, 109, 110, 111, 112, 113, 114, 115, 116, 117, 118, 119, 120, 121, 122, 123, 124, 125, 126, 127, 128, 129, 130, 131, 132, 133, 134, 135, 136, 137, 138, 139, 140, 141, 142] (by decide +kernel) (by decide +kernel)) (goodIn_sub (fun _ h => List.mem_cons_of_mem _ (List.mem_append_right _ h)) (by decide +kernel))
set_option maxRecDepth 20000 in
theorem gL_hasForm_X6_hasForm : GoodIn wsL_hasForm (wsV RL 108 RX6 yX6_hasForm wsX6_hasForm) := goodIn_app (goodIn_of _ (by decide +kernel)) ggL_hasForm_X6_hasForm
theorem dL_hasForm_0 : decode cL_hasForm 0 = .ok (.aload_n 3, 1) := by decide +kernel
theorem dL_hasForm_1 : decode cL_hasForm 1 = .ok (.iconst 0, 1) := by decide +kernel
theorem dL_hasForm_2 : decode cL_hasForm 2 = .ok (.aload_n 0, 1) := by decide +kernel
theorem dL_hasForm_3 : decode cL_hasForm 3 = .ok (.iload_n 1, 1) := by decide +kernel
theorem dL_hasForm_4 : decode cL_hasForm 4 = .ok (.iload_n 2, 1) := by decide +kernel
theorem dL_hasForm_5 : decode cL_hasForm 5 = .ok (.invokevirtual 108, 3) := by decide +kernel
theorem dL_hasForm_8 : decode cL_hasForm 8 = .ok (.ifCond .eq 7, 3) := by decide +kernel
theorem dL_hasForm_11 : decode cL_hasForm 11 = .ok (.lconst 1, 1) := by decide +kernel
theorem dL_hasForm_12 : decode cL_hasForm 12 = .ok (.goto 4, 3) := by decide +kernel
theorem dL_hasForm_15 : decode cL_hasForm 15 = .ok (.lconst 0, 1) := by decide +kernel
theorem dL_hasForm_16 : decode cL_hasForm 16 = .ok (.lastore, 1) := by decide +kernel
theorem dL_hasForm_17 : decode cL_hasForm 17 = .ok (.goto 7, 3) := by decide +kernel
theorem dL_hasForm_20 : decode cL_hasForm 20 = .ok (.astore 4, 2) := by decide +kernel
theorem dL_hasForm_22 : decode cL_hasForm 22 = .ok (.iconst 1, 1) := by decide +kernel
theorem dL_hasForm_23 : decode cL_hasForm 23 = .ok (.ireturn, 1) := by decide +kernel
theorem dL_hasForm_24 : decode cL_hasForm 24 = .ok (.iconst 0, 1) := by decide +kernel
theorem dL_hasForm_25 : decode cL_hasForm 25 = .ok (.ireturn, 1) := by decide +kernel
def rL_hasForm : Room := { frames := 8, cells := 2, slots := 12, locals := 141 }
theorem lL_hasForm_0 : Cond.classLink RL 21 (zEx 0) ∈ wsL_hasForm := by decide +kernel
set_option maxRecDepth 100000 in
set_option maxHeartbeats 4000000 in
theorem tL_hasForm_16 {p : Program} {l : Launch} {e : Env} {s : State} {m : MethodId} {args : Array Value} {below : List Frame} {meth : Method} {c : Code} {a : Nat → Nat} {cy : Nat → ClassId} {D : va_G} {tV : Nat} {sa : Nat → Nat} (C : zC p l s m args meth c cL_hasForm 5 wsL_hasForm RL a cy D tV sa) (hr : meth.sig.returnType = (some .int)) (ht : c.exceptionTable.toList = tableOf [(0, 17, 20, 21)]) (hl : l.stackTraces = false) {k0 : Nat} {k3 : Nat} (hk0 : zk k0 = 5) (hk3 : zk k3 = 9) {P : Int → Sto → Prop} {X : Nat → Sto → Prop} : ∀ (y0 y1 : Int) (σ : Sto), vL_hasForm_16 k0 k3 P y0 y1 σ → zX p l e rL_hasForm s m args below meth c 5 a cy D (vx_MQ below (fun _ => zQo a cy D s.heap.size (zPI P)) (zXC a cy D s.heap.size X) args s 2 12 (zA a s.heap.size)) 2 12 σ 16 [] [.long (zJ y0), .int (zI y1), .ref (a k3)] := by
  intro y0 y1 σ hq
  unfold vL_hasForm_16 at hq
  obtain ⟨h0, h1, hq⟩ := hq
  refine zr_last C hk3 h0 h1 dL_hasForm_16 rfl (fun s2 es2 => ?_)
  have hq := hq s2 es2
  refine zr_goto C (tgt := 24) dL_hasForm_17 (by decide) ?_
  refine zr_iconst C dL_hasForm_24 rfl ?_
  exact zr_widen (Nat.le_of_ble_eq_true rfl) (Nat.le_of_ble_eq_true rfl) (zr_vx (zr_iret C hr dL_hasForm_25 ⟨_, rfl, hq⟩))
set_option maxRecDepth 100000 in
set_option maxHeartbeats 4000000 in
theorem mL_hasForm {l : Launch} {a : Nat → Nat} {cy : Nat → ClassId} {D : va_G} {tV : Nat} {sa : Nat → Nat} (hl : l.stackTraces = false) {P : Int → Sto → Prop} {X : Nat → Sto → Prop} {σ : Sto} {k0 : Nat} {x1 : Int} {x2 : Int} {k3 : Nat} (hk0 : zk k0 = 5) (hk3 : zk k3 = 9) (hq : vL_hasForm k0 x1 x2 k3 P σ) : zMX l yL_hasForm wsL_hasForm rL_hasForm a cy D tV sa [.ref (a k0), .int (zI x1), .int (zI x2), .ref (a k3)] σ (zPI P) X 2 12 :=
  zMXH_of (cc := cL_hasForm) (maxL := 5) (ret := (some .int)) (hh := [(0, 17, 20, 21)]) (by decide) rfl (Nat.le_of_ble_eq_true rfl) (L0 := [(0, .ref (a k0)), (1, .int (zI x1)), (2, .int (zI x2)), (3, .ref (a k3))]) rfl (fun p e s m args below meth c C hr ht => by
  unfold vL_hasForm at hq
  refine zr_aload_n C dL_hasForm_0 rfl (k := 3) rfl rfl ?_
  refine zr_iconst C dL_hasForm_1 rfl ?_
  refine zr_aload_n C dL_hasForm_2 rfl (k := 0) rfl rfl ?_
  refine zr_iload_n C dL_hasForm_3 rfl (k := 1) rfl rfl ?_
  refine zr_iload_n C dL_hasForm_4 rfl (k := 2) rfl rfl ?_
  refine zr_xcall (zrunVX C (st := [.int (zI 0), .ref (a k3)]) (mX6_hasForm hl hk0 hq) (cwV 2 C.2.2.2.2.1 gL_hasForm_X6_hasForm rfl rfl rfl (by decide +kernel) ⟨Nat.le_of_ble_eq_true rfl, Nat.le_of_ble_eq_true rfl⟩) (zE_5 hk0) (zk_lt hk0 (by decide)) (T := TX6) (N := 8) rfl rfl rfl (Nat.le_of_ble_eq_true rfl) dL_hasForm_5 ⟨(Nat.le_of_ble_eq_true rfl), (Nat.le_of_ble_eq_true rfl)⟩) rfl (fun i s9 H1 locs1 ls ce q9 hi hx hO hP hS hL h1 h2 h3 => ?_) (fun v s1 hv => ?_)
  · rcases (show i = 0 ∨ i = 1 ∨ i = 2 ∨ i = 3 by omega) with rfl | rfl | rfl | rfl
    · have hq := hx.1 rfl
      refine zr_catch C ht [] ⟨0, 17, 20, 21⟩ [] rfl 0 (by decide) (fun _ h => nomatch h) rfl (by decide) lL_hasForm_0 h1 h2 h3 ?_
      refine (?_ : zX p l e rL_hasForm s m args below meth c 5 a cy D (vx_MQ below (fun _ => zQo a cy D s.heap.size (zPI P)) (zXC a cy D s.heap.size X) args s 2 12 (zA a s.heap.size)) 2 12 s9 20 [(0, .ref (a k0)), (1, .int (zI x1)), (2, .int (zI x2)), (3, .ref (a k3))] [.ref q9]) H1 locs1 ls hO hP hS hL
      refine zr_astore C (L' := [(4, .ref q9), (0, .ref (a k0)), (1, .int (zI x1)), (2, .int (zI x2)), (3, .ref (a k3))]) dL_hasForm_20 (by decide) rfl rfl ?_
      refine zr_iconst C dL_hasForm_22 rfl ?_
      exact zr_widen (Nat.le_of_ble_eq_true rfl) (Nat.le_of_ble_eq_true rfl) (zr_vx (zr_iret C hr dL_hasForm_23 ⟨_, rfl, hq⟩))
    · exact (hx.2.1 rfl).elim
    · exact (hx.2.2.1 rfl).elim
    · exact (hx.2.2.2 rfl).elim
  · obtain ⟨r1, rfl, hq⟩ := hv
    obtain ⟨h0, hq⟩ := hq
    refine zr_if_eq C (tgt := 15) dL_hasForm_8 (by decide) h0 rfl (fun z => ?_) (fun z => ?_)
    · have hq := hq.1 z
      refine zr_lconst C (x := 0) dL_hasForm_15 rfl rfl ?_
      exact zr_widen (Nat.le_of_ble_eq_true rfl) (Nat.le_of_ble_eq_true rfl) <| zr_sub C [] rfl (tL_hasForm_16 C hr ht hl hk0 hk3 _ _ _ hq)
    · have hq := hq.2 z
      refine zr_lconst C (x := 1) dL_hasForm_11 rfl rfl ?_
      refine zr_goto C (tgt := 16) dL_hasForm_12 (by decide) ?_
      exact zr_widen (Nat.le_of_ble_eq_true rfl) (Nat.le_of_ble_eq_true rfl) <| zr_sub C [] rfl (tL_hasForm_16 C hr ht hl hk0 hk3 _ _ _ hq))
/-! InflectionGuesserLaw.missing(LInflectionGuesser;I[J)I -/
set_option maxRecDepth 20000 in
theorem ggL_missing_X6_missing : GoodIn wsL_missing wsX6_missing := goodIn_ca (goodIn_r _ [6, 7, 8, 9, 10, 5, 11, 12, 13, 14, 15, 16, 17, 18, 19, 20, 21, 22, 23, 24, 25, 26, 27, 28, 29, 30, 31, 32, 33, 34, 35, 36, 37, 38, 39, 40, 41, 42, 43, 44, 45, 46, 47, 48, 49, 50, 51, 52, 53, 54, 55, 56, 57, 58, 59, 60, 61, 62, 63, 64, 65, 66, 67, 68, 69, 70, 71, 72, 73, 74, 75, 76, 77, 78, 79, 80, 81, 82, 83, 84, 85, 86, 87, 88, 89, 90, 91, 92, 93, 94, 95, 96, 97, 98, 99, 100, 101, 102, 103, 104, 105, 106, 107, 108, 109, 110, 111, 112, 113, 114, 115, 116, 117, 118, 119, 120, 121, 122, 123, 124, 125, 126, 127, 128, 129, 130, 131, 132, 133, 134, 135] (by decide +kernel) (by decide +kernel)) (goodIn_sub (fun _ h => List.mem_cons_of_mem _ (List.mem_append_right _ h)) (by decide +kernel))
set_option maxRecDepth 20000 in
theorem gL_missing_X6_missing : GoodIn wsL_missing (wsV RL 111 RX6 yX6_missing wsX6_missing) := goodIn_app (goodIn_of _ (by decide +kernel)) ggL_missing_X6_missing
theorem dL_missing_0 : decode cL_missing 0 = .ok (.aload_n 2, 1) := by decide +kernel
theorem dL_missing_1 : decode cL_missing 1 = .ok (.iconst 0, 1) := by decide +kernel
theorem dL_missing_2 : decode cL_missing 2 = .ok (.aload_n 0, 1) := by decide +kernel
theorem dL_missing_3 : decode cL_missing 3 = .ok (.iload_n 1, 1) := by decide +kernel
theorem dL_missing_4 : decode cL_missing 4 = .ok (.invokevirtual 111, 3) := by decide +kernel
theorem dL_missing_7 : decode cL_missing 7 = .ok (.i2l, 1) := by decide +kernel
theorem dL_missing_8 : decode cL_missing 8 = .ok (.lastore, 1) := by decide +kernel
theorem dL_missing_9 : decode cL_missing 9 = .ok (.goto 6, 3) := by decide +kernel
theorem dL_missing_12 : decode cL_missing 12 = .ok (.astore_n 3, 1) := by decide +kernel
theorem dL_missing_13 : decode cL_missing 13 = .ok (.iconst 1, 1) := by decide +kernel
theorem dL_missing_14 : decode cL_missing 14 = .ok (.ireturn, 1) := by decide +kernel
theorem dL_missing_15 : decode cL_missing 15 = .ok (.iconst 0, 1) := by decide +kernel
theorem dL_missing_16 : decode cL_missing 16 = .ok (.ireturn, 1) := by decide +kernel
def rL_missing : Room := { frames := 8, cells := 1, slots := 6, locals := 140 }
theorem lL_missing_0 : Cond.classLink RL 21 (zEx 0) ∈ wsL_missing := by decide +kernel
set_option maxRecDepth 100000 in
set_option maxHeartbeats 4000000 in
theorem mL_missing {l : Launch} {a : Nat → Nat} {cy : Nat → ClassId} {D : va_G} {tV : Nat} {sa : Nat → Nat} (hl : l.stackTraces = false) {P : Int → Sto → Prop} {X : Nat → Sto → Prop} {σ : Sto} {k0 : Nat} {x1 : Int} {k2 : Nat} (hk0 : zk k0 = 5) (hk2 : zk k2 = 9) (hq : vL_missing k0 x1 k2 P σ) : zMX l yL_missing wsL_missing rL_missing a cy D tV sa [.ref (a k0), .int (zI x1), .ref (a k2)] σ (zPI P) X 1 6 :=
  zMXH_of (cc := cL_missing) (maxL := 4) (ret := (some .int)) (hh := [(0, 9, 12, 21)]) (by decide) rfl (Nat.le_of_ble_eq_true rfl) (L0 := [(0, .ref (a k0)), (1, .int (zI x1)), (2, .ref (a k2))]) rfl (fun p e s m args below meth c C hr ht => by
  unfold vL_missing at hq
  refine zr_aload_n C dL_missing_0 rfl (k := 2) rfl rfl ?_
  refine zr_iconst C dL_missing_1 rfl ?_
  refine zr_aload_n C dL_missing_2 rfl (k := 0) rfl rfl ?_
  refine zr_iload_n C dL_missing_3 rfl (k := 1) rfl rfl ?_
  refine zr_xcall (zrunVX C (st := [.int (zI 0), .ref (a k2)]) (mX6_missing hl hk0 hq) (cwV 1 C.2.2.2.2.1 gL_missing_X6_missing rfl rfl rfl (by decide +kernel) ⟨Nat.le_of_ble_eq_true rfl, Nat.le_of_ble_eq_true rfl⟩) (zE_5 hk0) (zk_lt hk0 (by decide)) (T := TX6) (N := 8) rfl rfl rfl (Nat.le_of_ble_eq_true rfl) dL_missing_4 ⟨(Nat.le_of_ble_eq_true rfl), (Nat.le_of_ble_eq_true rfl)⟩) rfl (fun i s9 H1 locs1 ls ce q9 hi hx hO hP hS hL h1 h2 h3 => ?_) (fun v s1 hv => ?_)
  · rcases (show i = 0 ∨ i = 1 ∨ i = 2 ∨ i = 3 by omega) with rfl | rfl | rfl | rfl
    · have hq := hx.1 rfl
      refine zr_catch C ht [] ⟨0, 9, 12, 21⟩ [] rfl 0 (by decide) (fun _ h => nomatch h) rfl (by decide) lL_missing_0 h1 h2 h3 ?_
      refine (?_ : zX p l e rL_missing s m args below meth c 4 a cy D (vx_MQ below (fun _ => zQo a cy D s.heap.size (zPI P)) (zXC a cy D s.heap.size X) args s 1 6 (zA a s.heap.size)) 1 6 s9 12 [(0, .ref (a k0)), (1, .int (zI x1)), (2, .ref (a k2))] [.ref q9]) H1 locs1 ls hO hP hS hL
      refine zr_astore_n C (L' := [(3, .ref q9), (0, .ref (a k0)), (1, .int (zI x1)), (2, .ref (a k2))]) dL_missing_12 rfl (by decide) rfl rfl ?_
      refine zr_iconst C dL_missing_13 rfl ?_
      exact zr_widen (Nat.le_of_ble_eq_true rfl) (Nat.le_of_ble_eq_true rfl) (zr_vx (zr_iret C hr dL_missing_14 ⟨_, rfl, hq⟩))
    · exact (hx.2.1 rfl).elim
    · exact (hx.2.2.1 rfl).elim
    · exact (hx.2.2.2 rfl).elim
  · obtain ⟨r1, rfl, hq⟩ := hv
    obtain ⟨h0, hq⟩ := hq
    refine zr_i2l C dL_missing_7 h0 rfl ?_
    obtain ⟨h0, hq⟩ := hq
    refine zr_last C hk2 (by decide) h0 dL_missing_8 rfl (fun s2 es2 => ?_)
    have hq := hq s2 es2
    refine zr_goto C (tgt := 15) dL_missing_9 (by decide) ?_
    refine zr_iconst C dL_missing_15 rfl ?_
    exact zr_widen (Nat.le_of_ble_eq_true rfl) (Nat.le_of_ble_eq_true rfl) (zr_vx (zr_iret C hr dL_missing_16 ⟨_, rfl, hq⟩)))
/-! InflectionGuesserLaw.missingCell(LInflectionGuesser;II[J)I -/
set_option maxRecDepth 20000 in
theorem ggL_missingCell_X6_missingCell : GoodIn wsL_missingCell wsX6_missingCell := goodIn_ca (goodIn_ca (goodIn_r _ [7, 8, 9, 10, 11, 12, 13, 6, 14, 15, 16, 17, 18, 19, 20, 21, 22, 23, 24, 25, 26, 27, 28, 29, 30, 31, 32, 33, 34, 35, 36, 37, 38, 39, 40, 41, 42, 43, 44, 45, 46, 47, 48, 49, 50, 51, 52, 53, 54, 55, 56, 57, 58, 59, 60, 61, 62, 63, 64, 65, 66, 67, 68, 69, 70, 71, 72, 73, 74, 75, 76, 77, 78, 79, 80, 81, 82, 83, 84, 85, 86, 87, 88, 89, 90, 91, 92, 93, 94, 95, 96, 97, 98, 99, 100, 101, 102, 103, 104, 105, 106, 107, 108, 109, 110, 111, 112, 113, 114, 115, 116, 117, 118, 119, 120, 121, 122, 123, 124, 125, 126, 127, 128, 129, 130, 131, 132, 133, 134, 135, 136, 137, 138] (by decide +kernel) (by decide +kernel)) (goodIn_sub (fun _ h => List.mem_cons_of_mem _ (List.mem_append_left _ (List.mem_append_right _ h))) (by decide +kernel))) (goodIn_sub (fun _ h => List.mem_cons_of_mem _ (List.mem_append_right _ h)) (by decide +kernel))
set_option maxRecDepth 20000 in
theorem gL_missingCell_X6_missingCell : GoodIn wsL_missingCell (wsV RL 114 RX6 yX6_missingCell wsX6_missingCell) := goodIn_app (goodIn_of _ (by decide +kernel)) ggL_missingCell_X6_missingCell
theorem dL_missingCell_0 : decode cL_missingCell 0 = .ok (.aload_n 3, 1) := by decide +kernel
theorem dL_missingCell_1 : decode cL_missingCell 1 = .ok (.iconst 0, 1) := by decide +kernel
theorem dL_missingCell_2 : decode cL_missingCell 2 = .ok (.aload_n 0, 1) := by decide +kernel
theorem dL_missingCell_3 : decode cL_missingCell 3 = .ok (.iload_n 1, 1) := by decide +kernel
theorem dL_missingCell_4 : decode cL_missingCell 4 = .ok (.iload_n 2, 1) := by decide +kernel
theorem dL_missingCell_5 : decode cL_missingCell 5 = .ok (.invokevirtual 114, 3) := by decide +kernel
theorem dL_missingCell_8 : decode cL_missingCell 8 = .ok (.i2l, 1) := by decide +kernel
theorem dL_missingCell_9 : decode cL_missingCell 9 = .ok (.lastore, 1) := by decide +kernel
theorem dL_missingCell_10 : decode cL_missingCell 10 = .ok (.goto 11, 3) := by decide +kernel
theorem dL_missingCell_13 : decode cL_missingCell 13 = .ok (.astore 4, 2) := by decide +kernel
theorem dL_missingCell_15 : decode cL_missingCell 15 = .ok (.iconst 1, 1) := by decide +kernel
theorem dL_missingCell_16 : decode cL_missingCell 16 = .ok (.ireturn, 1) := by decide +kernel
theorem dL_missingCell_17 : decode cL_missingCell 17 = .ok (.astore 4, 2) := by decide +kernel
theorem dL_missingCell_19 : decode cL_missingCell 19 = .ok (.iconst 2, 1) := by decide +kernel
theorem dL_missingCell_20 : decode cL_missingCell 20 = .ok (.ireturn, 1) := by decide +kernel
theorem dL_missingCell_21 : decode cL_missingCell 21 = .ok (.iconst 0, 1) := by decide +kernel
theorem dL_missingCell_22 : decode cL_missingCell 22 = .ok (.ireturn, 1) := by decide +kernel
def rL_missingCell : Room := { frames := 8, cells := 2, slots := 12, locals := 141 }
theorem lL_missingCell_0 : Cond.classLink RL 21 (zEx 0) ∈ wsL_missingCell := by decide +kernel
theorem lL_missingCell_3 : Cond.classLink RL 35 (zEx 3) ∈ wsL_missingCell := by decide +kernel
set_option maxRecDepth 100000 in
set_option maxHeartbeats 4000000 in
theorem mL_missingCell {l : Launch} {a : Nat → Nat} {cy : Nat → ClassId} {D : va_G} {tV : Nat} {sa : Nat → Nat} (hl : l.stackTraces = false) {P : Int → Sto → Prop} {X : Nat → Sto → Prop} {σ : Sto} {k0 : Nat} {x1 : Int} {x2 : Int} {k3 : Nat} (hk0 : zk k0 = 5) (hk3 : zk k3 = 9) (hq : vL_missingCell k0 x1 x2 k3 P σ) : zMX l yL_missingCell wsL_missingCell rL_missingCell a cy D tV sa [.ref (a k0), .int (zI x1), .int (zI x2), .ref (a k3)] σ (zPI P) X 2 12 :=
  zMXH_of (cc := cL_missingCell) (maxL := 5) (ret := (some .int)) (hh := [(0, 10, 13, 21), (0, 10, 17, 35)]) (by decide) rfl (Nat.le_of_ble_eq_true rfl) (L0 := [(0, .ref (a k0)), (1, .int (zI x1)), (2, .int (zI x2)), (3, .ref (a k3))]) rfl (fun p e s m args below meth c C hr ht => by
  unfold vL_missingCell at hq
  refine zr_aload_n C dL_missingCell_0 rfl (k := 3) rfl rfl ?_
  refine zr_iconst C dL_missingCell_1 rfl ?_
  refine zr_aload_n C dL_missingCell_2 rfl (k := 0) rfl rfl ?_
  refine zr_iload_n C dL_missingCell_3 rfl (k := 1) rfl rfl ?_
  refine zr_iload_n C dL_missingCell_4 rfl (k := 2) rfl rfl ?_
  refine zr_xcall (zrunVX C (st := [.int (zI 0), .ref (a k3)]) (mX6_missingCell hl hk0 hq) (cwV 2 C.2.2.2.2.1 gL_missingCell_X6_missingCell rfl rfl rfl (by decide +kernel) ⟨Nat.le_of_ble_eq_true rfl, Nat.le_of_ble_eq_true rfl⟩) (zE_5 hk0) (zk_lt hk0 (by decide)) (T := TX6) (N := 8) rfl rfl rfl (Nat.le_of_ble_eq_true rfl) dL_missingCell_5 ⟨(Nat.le_of_ble_eq_true rfl), (Nat.le_of_ble_eq_true rfl)⟩) rfl (fun i s9 H1 locs1 ls ce q9 hi hx hO hP hS hL h1 h2 h3 => ?_) (fun v s1 hv => ?_)
  · rcases (show i = 0 ∨ i = 1 ∨ i = 2 ∨ i = 3 by omega) with rfl | rfl | rfl | rfl
    · have hq := hx.1 rfl
      refine zr_catch C ht [] ⟨0, 10, 13, 21⟩ [⟨0, 10, 17, 35⟩] rfl 0 (by decide) (fun _ h => nomatch h) rfl (by decide) lL_missingCell_0 h1 h2 h3 ?_
      refine (?_ : zX p l e rL_missingCell s m args below meth c 5 a cy D (vx_MQ below (fun _ => zQo a cy D s.heap.size (zPI P)) (zXC a cy D s.heap.size X) args s 2 12 (zA a s.heap.size)) 2 12 s9 13 [(0, .ref (a k0)), (1, .int (zI x1)), (2, .int (zI x2)), (3, .ref (a k3))] [.ref q9]) H1 locs1 ls hO hP hS hL
      refine zr_astore C (L' := [(4, .ref q9), (0, .ref (a k0)), (1, .int (zI x1)), (2, .int (zI x2)), (3, .ref (a k3))]) dL_missingCell_13 (by decide) rfl rfl ?_
      refine zr_iconst C dL_missingCell_15 rfl ?_
      exact zr_widen (Nat.le_of_ble_eq_true rfl) (Nat.le_of_ble_eq_true rfl) (zr_vx (zr_iret C hr dL_missingCell_16 ⟨_, rfl, hq⟩))
    · exact (hx.2.1 rfl).elim
    · exact (hx.2.2.1 rfl).elim
    · have hq := hx.2.2.2 rfl
      refine zr_catch C ht [⟨0, 10, 13, 21⟩] ⟨0, 10, 17, 35⟩ [] rfl 3 (by decide) (List.forall_mem_cons.mpr ⟨⟨by decide, 0, by decide, by decide, lL_missingCell_0⟩, (fun _ h => nomatch h)⟩) rfl (by decide) lL_missingCell_3 h1 h2 h3 ?_
      refine (?_ : zX p l e rL_missingCell s m args below meth c 5 a cy D (vx_MQ below (fun _ => zQo a cy D s.heap.size (zPI P)) (zXC a cy D s.heap.size X) args s 2 12 (zA a s.heap.size)) 2 12 s9 17 [(0, .ref (a k0)), (1, .int (zI x1)), (2, .int (zI x2)), (3, .ref (a k3))] [.ref q9]) H1 locs1 ls hO hP hS hL
      refine zr_astore C (L' := [(4, .ref q9), (0, .ref (a k0)), (1, .int (zI x1)), (2, .int (zI x2)), (3, .ref (a k3))]) dL_missingCell_17 (by decide) rfl rfl ?_
      refine zr_iconst C dL_missingCell_19 rfl ?_
      exact zr_widen (Nat.le_of_ble_eq_true rfl) (Nat.le_of_ble_eq_true rfl) (zr_vx (zr_iret C hr dL_missingCell_20 ⟨_, rfl, hq⟩))
  · obtain ⟨r1, rfl, hq⟩ := hv
    obtain ⟨h0, hq⟩ := hq
    refine zr_i2l C dL_missingCell_8 h0 rfl ?_
    obtain ⟨h0, hq⟩ := hq
    refine zr_last C hk3 (by decide) h0 dL_missingCell_9 rfl (fun s2 es2 => ?_)
    have hq := hq s2 es2
    refine zr_goto C (tgt := 21) dL_missingCell_10 (by decide) ?_
    refine zr_iconst C dL_missingCell_21 rfl ?_
    exact zr_widen (Nat.le_of_ble_eq_true rfl) (Nat.le_of_ble_eq_true rfl) (zr_vx (zr_iret C hr dL_missingCell_22 ⟨_, rfl, hq⟩)))
/-! InflectionGuesserLaw.lexemesOf(LInflectionGuesser;I[J)I -/
set_option maxRecDepth 20000 in
theorem ggL_lexemesOf_X6_lexemesOf : GoodIn wsL_lexemesOf wsX6_lexemesOf := goodIn_ca (goodIn_r _ [6, 7, 8, 9, 10, 5, 11, 12, 13, 14, 15, 16, 17, 18, 19, 20, 21, 22, 23, 24, 25, 26, 27, 28, 29, 30, 31, 32, 33, 34, 35, 36, 37, 38, 39, 40, 41, 42, 43, 44, 45, 46, 47, 48, 49, 50, 51, 52, 53, 54, 55, 56, 57, 58, 59, 60, 61, 62, 63, 64, 65, 66, 67, 68, 69, 70, 71, 72, 73, 74, 75, 76, 77, 78, 79, 80, 81, 82, 83, 84, 85, 86, 87, 88, 89, 90, 91, 92, 93, 94, 95, 96, 97, 98, 99, 100, 101, 102, 103, 104, 105, 106, 107, 108, 109, 110, 111, 112, 113, 114, 115, 116, 117, 118, 119, 120, 121, 122, 123, 124, 125, 126, 127, 128, 129, 130, 131, 132, 133, 134, 135, 136, 137, 138] (by decide +kernel) (by decide +kernel)) (goodIn_sub (fun _ h => List.mem_cons_of_mem _ (List.mem_append_right _ h)) (by decide +kernel))
set_option maxRecDepth 20000 in
theorem gL_lexemesOf_X6_lexemesOf : GoodIn wsL_lexemesOf (wsV RL 117 RX6 yX6_lexemesOf wsX6_lexemesOf) := goodIn_app (goodIn_of _ (by decide +kernel)) ggL_lexemesOf_X6_lexemesOf
theorem dL_lexemesOf_0 : decode cL_lexemesOf 0 = .ok (.aload_n 2, 1) := by decide +kernel
theorem dL_lexemesOf_1 : decode cL_lexemesOf 1 = .ok (.iconst 0, 1) := by decide +kernel
theorem dL_lexemesOf_2 : decode cL_lexemesOf 2 = .ok (.aload_n 0, 1) := by decide +kernel
theorem dL_lexemesOf_3 : decode cL_lexemesOf 3 = .ok (.iload_n 1, 1) := by decide +kernel
theorem dL_lexemesOf_4 : decode cL_lexemesOf 4 = .ok (.invokevirtual 117, 3) := by decide +kernel
theorem dL_lexemesOf_7 : decode cL_lexemesOf 7 = .ok (.i2l, 1) := by decide +kernel
theorem dL_lexemesOf_8 : decode cL_lexemesOf 8 = .ok (.lastore, 1) := by decide +kernel
theorem dL_lexemesOf_9 : decode cL_lexemesOf 9 = .ok (.goto 6, 3) := by decide +kernel
theorem dL_lexemesOf_12 : decode cL_lexemesOf 12 = .ok (.astore_n 3, 1) := by decide +kernel
theorem dL_lexemesOf_13 : decode cL_lexemesOf 13 = .ok (.iconst 1, 1) := by decide +kernel
theorem dL_lexemesOf_14 : decode cL_lexemesOf 14 = .ok (.ireturn, 1) := by decide +kernel
theorem dL_lexemesOf_15 : decode cL_lexemesOf 15 = .ok (.iconst 0, 1) := by decide +kernel
theorem dL_lexemesOf_16 : decode cL_lexemesOf 16 = .ok (.ireturn, 1) := by decide +kernel
def rL_lexemesOf : Room := { frames := 8, cells := 1, slots := 6, locals := 142 }
theorem lL_lexemesOf_0 : Cond.classLink RL 21 (zEx 0) ∈ wsL_lexemesOf := by decide +kernel
set_option maxRecDepth 100000 in
set_option maxHeartbeats 4000000 in
theorem mL_lexemesOf {l : Launch} {a : Nat → Nat} {cy : Nat → ClassId} {D : va_G} {tV : Nat} {sa : Nat → Nat} (hl : l.stackTraces = false) {P : Int → Sto → Prop} {X : Nat → Sto → Prop} {σ : Sto} {k0 : Nat} {x1 : Int} {k2 : Nat} (hk0 : zk k0 = 5) (hk2 : zk k2 = 9) (hq : vL_lexemesOf k0 x1 k2 P σ) : zMX l yL_lexemesOf wsL_lexemesOf rL_lexemesOf a cy D tV sa [.ref (a k0), .int (zI x1), .ref (a k2)] σ (zPI P) X 1 6 :=
  zMXH_of (cc := cL_lexemesOf) (maxL := 4) (ret := (some .int)) (hh := [(0, 9, 12, 21)]) (by decide) rfl (Nat.le_of_ble_eq_true rfl) (L0 := [(0, .ref (a k0)), (1, .int (zI x1)), (2, .ref (a k2))]) rfl (fun p e s m args below meth c C hr ht => by
  unfold vL_lexemesOf at hq
  refine zr_aload_n C dL_lexemesOf_0 rfl (k := 2) rfl rfl ?_
  refine zr_iconst C dL_lexemesOf_1 rfl ?_
  refine zr_aload_n C dL_lexemesOf_2 rfl (k := 0) rfl rfl ?_
  refine zr_iload_n C dL_lexemesOf_3 rfl (k := 1) rfl rfl ?_
  refine zr_xcall (zrunVX C (st := [.int (zI 0), .ref (a k2)]) (mX6_lexemesOf hl hk0 hq) (cwV 1 C.2.2.2.2.1 gL_lexemesOf_X6_lexemesOf rfl rfl rfl (by decide +kernel) ⟨Nat.le_of_ble_eq_true rfl, Nat.le_of_ble_eq_true rfl⟩) (zE_5 hk0) (zk_lt hk0 (by decide)) (T := TX6) (N := 8) rfl rfl rfl (Nat.le_of_ble_eq_true rfl) dL_lexemesOf_4 ⟨(Nat.le_of_ble_eq_true rfl), (Nat.le_of_ble_eq_true rfl)⟩) rfl (fun i s9 H1 locs1 ls ce q9 hi hx hO hP hS hL h1 h2 h3 => ?_) (fun v s1 hv => ?_)
  · rcases (show i = 0 ∨ i = 1 ∨ i = 2 ∨ i = 3 by omega) with rfl | rfl | rfl | rfl
    · have hq := hx.1 rfl
      refine zr_catch C ht [] ⟨0, 9, 12, 21⟩ [] rfl 0 (by decide) (fun _ h => nomatch h) rfl (by decide) lL_lexemesOf_0 h1 h2 h3 ?_
      refine (?_ : zX p l e rL_lexemesOf s m args below meth c 4 a cy D (vx_MQ below (fun _ => zQo a cy D s.heap.size (zPI P)) (zXC a cy D s.heap.size X) args s 1 6 (zA a s.heap.size)) 1 6 s9 12 [(0, .ref (a k0)), (1, .int (zI x1)), (2, .ref (a k2))] [.ref q9]) H1 locs1 ls hO hP hS hL
      refine zr_astore_n C (L' := [(3, .ref q9), (0, .ref (a k0)), (1, .int (zI x1)), (2, .ref (a k2))]) dL_lexemesOf_12 rfl (by decide) rfl rfl ?_
      refine zr_iconst C dL_lexemesOf_13 rfl ?_
      exact zr_widen (Nat.le_of_ble_eq_true rfl) (Nat.le_of_ble_eq_true rfl) (zr_vx (zr_iret C hr dL_lexemesOf_14 ⟨_, rfl, hq⟩))
    · exact (hx.2.1 rfl).elim
    · exact (hx.2.2.1 rfl).elim
    · exact (hx.2.2.2 rfl).elim
  · obtain ⟨r1, rfl, hq⟩ := hv
    obtain ⟨h0, hq⟩ := hq
    refine zr_i2l C dL_lexemesOf_7 h0 rfl ?_
    obtain ⟨h0, hq⟩ := hq
    refine zr_last C hk2 (by decide) h0 dL_lexemesOf_8 rfl (fun s2 es2 => ?_)
    have hq := hq s2 es2
    refine zr_goto C (tgt := 15) dL_lexemesOf_9 (by decide) ?_
    refine zr_iconst C dL_lexemesOf_15 rfl ?_
    exact zr_widen (Nat.le_of_ble_eq_true rfl) (Nat.le_of_ble_eq_true rfl) (zr_vx (zr_iret C hr dL_lexemesOf_16 ⟨_, rfl, hq⟩)))
/-! InflectionGuesserLaw.undo(LInflectionGuesser;[J)I -/
set_option maxRecDepth 20000 in
theorem ggL_undo_X6_undo : GoodIn wsL_undo wsX6_undo := goodIn_ca (goodIn_r _ [6, 7, 8, 9, 10, 11, 12, 13, 14, 15, 16, 17, 18, 19, 20, 21, 22, 23, 24, 25, 26, 27, 28, 29, 30, 31, 32, 33, 34, 35, 36, 37, 38, 39, 40, 41, 42, 43, 44, 45, 46, 47, 48, 49, 50, 51, 52, 53, 54, 55, 56, 57, 58, 59, 60, 61, 62, 63, 64, 65, 66, 67, 68, 69, 70, 71, 72, 73, 74, 75, 76, 77, 78, 79, 80, 81, 82, 83, 84, 85] (by decide +kernel) (by decide +kernel)) (goodIn_sub (fun _ h => List.mem_cons_of_mem _ (List.mem_append_right _ h)) (by decide +kernel))
set_option maxRecDepth 20000 in
theorem gL_undo_X6_undo : GoodIn wsL_undo (wsV RL 120 RX6 yX6_undo wsX6_undo) := goodIn_app (goodIn_of _ (by decide +kernel)) ggL_undo_X6_undo
theorem dL_undo_0 : decode cL_undo 0 = .ok (.aload_n 1, 1) := by decide +kernel
theorem dL_undo_1 : decode cL_undo 1 = .ok (.iconst 0, 1) := by decide +kernel
theorem dL_undo_2 : decode cL_undo 2 = .ok (.aload_n 0, 1) := by decide +kernel
theorem dL_undo_3 : decode cL_undo 3 = .ok (.invokevirtual 120, 3) := by decide +kernel
theorem dL_undo_6 : decode cL_undo 6 = .ok (.i2l, 1) := by decide +kernel
theorem dL_undo_7 : decode cL_undo 7 = .ok (.lastore, 1) := by decide +kernel
theorem dL_undo_8 : decode cL_undo 8 = .ok (.goto 6, 3) := by decide +kernel
theorem dL_undo_11 : decode cL_undo 11 = .ok (.astore_n 2, 1) := by decide +kernel
theorem dL_undo_12 : decode cL_undo 12 = .ok (.iconst 1, 1) := by decide +kernel
theorem dL_undo_13 : decode cL_undo 13 = .ok (.ireturn, 1) := by decide +kernel
theorem dL_undo_14 : decode cL_undo 14 = .ok (.iconst 0, 1) := by decide +kernel
theorem dL_undo_15 : decode cL_undo 15 = .ok (.ireturn, 1) := by decide +kernel
def rL_undo : Room := { frames := 7, cells := 1, slots := 6, locals := 123 }
theorem lL_undo_3 : Cond.classLink RL 35 (zEx 3) ∈ wsL_undo := by decide +kernel
set_option maxRecDepth 100000 in
set_option maxHeartbeats 4000000 in
theorem mL_undo {l : Launch} {a : Nat → Nat} {cy : Nat → ClassId} {D : va_G} {tV : Nat} {sa : Nat → Nat} (hl : l.stackTraces = false) {P : Int → Sto → Prop} {X : Nat → Sto → Prop} {σ : Sto} {k0 : Nat} {k1 : Nat} (hk0 : zk k0 = 5) (hk1 : zk k1 = 9) (hq : vL_undo k0 k1 P σ) : zMX l yL_undo wsL_undo rL_undo a cy D tV sa [.ref (a k0), .ref (a k1)] σ (zPI P) X 1 6 :=
  zMXH_of (cc := cL_undo) (maxL := 3) (ret := (some .int)) (hh := [(0, 8, 11, 35)]) (by decide) rfl (Nat.le_of_ble_eq_true rfl) (L0 := [(0, .ref (a k0)), (1, .ref (a k1))]) rfl (fun p e s m args below meth c C hr ht => by
  unfold vL_undo at hq
  refine zr_aload_n C dL_undo_0 rfl (k := 1) rfl rfl ?_
  refine zr_iconst C dL_undo_1 rfl ?_
  refine zr_aload_n C dL_undo_2 rfl (k := 0) rfl rfl ?_
  refine zr_xcall (zrunVX C (st := [.int (zI 0), .ref (a k1)]) (mX6_undo hl hk0 hq) (cwV 0 C.2.2.2.2.1 gL_undo_X6_undo rfl rfl rfl (by decide +kernel) ⟨Nat.le_of_ble_eq_true rfl, Nat.le_of_ble_eq_true rfl⟩) (zE_5 hk0) (zk_lt hk0 (by decide)) (T := TX6) (N := 8) rfl rfl rfl (Nat.le_of_ble_eq_true rfl) dL_undo_3 ⟨(Nat.le_of_ble_eq_true rfl), (Nat.le_of_ble_eq_true rfl)⟩) rfl (fun i s9 H1 locs1 ls ce q9 hi hx hO hP hS hL h1 h2 h3 => ?_) (fun v s1 hv => ?_)
  · rcases (show i = 0 ∨ i = 1 ∨ i = 2 ∨ i = 3 by omega) with rfl | rfl | rfl | rfl
    · exact (hx.1 rfl).elim
    · exact (hx.2.1 rfl).elim
    · exact (hx.2.2.1 rfl).elim
    · have hq := hx.2.2.2 rfl
      refine zr_catch C ht [] ⟨0, 8, 11, 35⟩ [] rfl 3 (by decide) (fun _ h => nomatch h) rfl (by decide) lL_undo_3 h1 h2 h3 ?_
      refine (?_ : zX p l e rL_undo s m args below meth c 3 a cy D (vx_MQ below (fun _ => zQo a cy D s.heap.size (zPI P)) (zXC a cy D s.heap.size X) args s 1 6 (zA a s.heap.size)) 1 6 s9 11 [(0, .ref (a k0)), (1, .ref (a k1))] [.ref q9]) H1 locs1 ls hO hP hS hL
      refine zr_astore_n C (L' := [(2, .ref q9), (0, .ref (a k0)), (1, .ref (a k1))]) dL_undo_11 rfl (by decide) rfl rfl ?_
      refine zr_iconst C dL_undo_12 rfl ?_
      exact zr_widen (Nat.le_of_ble_eq_true rfl) (Nat.le_of_ble_eq_true rfl) (zr_vx (zr_iret C hr dL_undo_13 ⟨_, rfl, hq⟩))
  · obtain ⟨r1, rfl, hq⟩ := hv
    obtain ⟨h0, hq⟩ := hq
    refine zr_i2l C dL_undo_6 h0 rfl ?_
    obtain ⟨h0, hq⟩ := hq
    refine zr_last C hk1 (by decide) h0 dL_undo_7 rfl (fun s2 es2 => ?_)
    have hq := hq s2 es2
    refine zr_goto C (tgt := 14) dL_undo_8 (by decide) ?_
    refine zr_iconst C dL_undo_14 rfl ?_
    exact zr_widen (Nat.le_of_ble_eq_true rfl) (Nat.le_of_ble_eq_true rfl) (zr_vx (zr_iret C hr dL_undo_15 ⟨_, rfl, hq⟩)))
/-! InflectionGuesserLaw.restore(LInflectionGuesser;[J)I -/
set_option maxRecDepth 20000 in
theorem ggL_restore_X6_restore : GoodIn wsL_restore wsX6_restore := goodIn_ca (goodIn_r _ [6, 7, 8, 9, 10, 11, 12, 13, 14, 15, 16, 17, 18, 19, 20, 21, 22, 23, 24, 25, 26, 27, 28, 29, 30, 31, 32, 33, 34, 35, 36, 37, 38, 39, 40, 41, 42, 43, 44, 45, 46, 47, 48, 49, 50, 51, 52, 53, 54, 55, 56, 57, 58, 59, 60, 61, 62, 63, 64, 65, 66, 67, 68, 69, 70, 71, 72, 73, 74, 75, 76, 77, 78, 79, 80, 81, 82, 83, 84, 85] (by decide +kernel) (by decide +kernel)) (goodIn_sub (fun _ h => List.mem_cons_of_mem _ (List.mem_append_right _ h)) (by decide +kernel))
set_option maxRecDepth 20000 in
theorem gL_restore_X6_restore : GoodIn wsL_restore (wsV RL 123 RX6 yX6_restore wsX6_restore) := goodIn_app (goodIn_of _ (by decide +kernel)) ggL_restore_X6_restore
theorem dL_restore_0 : decode cL_restore 0 = .ok (.aload_n 1, 1) := by decide +kernel
theorem dL_restore_1 : decode cL_restore 1 = .ok (.iconst 0, 1) := by decide +kernel
theorem dL_restore_2 : decode cL_restore 2 = .ok (.aload_n 0, 1) := by decide +kernel
theorem dL_restore_3 : decode cL_restore 3 = .ok (.invokevirtual 123, 3) := by decide +kernel
theorem dL_restore_6 : decode cL_restore 6 = .ok (.i2l, 1) := by decide +kernel
theorem dL_restore_7 : decode cL_restore 7 = .ok (.lastore, 1) := by decide +kernel
theorem dL_restore_8 : decode cL_restore 8 = .ok (.goto 6, 3) := by decide +kernel
theorem dL_restore_11 : decode cL_restore 11 = .ok (.astore_n 2, 1) := by decide +kernel
theorem dL_restore_12 : decode cL_restore 12 = .ok (.iconst 1, 1) := by decide +kernel
theorem dL_restore_13 : decode cL_restore 13 = .ok (.ireturn, 1) := by decide +kernel
theorem dL_restore_14 : decode cL_restore 14 = .ok (.iconst 0, 1) := by decide +kernel
theorem dL_restore_15 : decode cL_restore 15 = .ok (.ireturn, 1) := by decide +kernel
def rL_restore : Room := { frames := 7, cells := 1, slots := 6, locals := 110 }
theorem lL_restore_2 : Cond.classLink RL 15 (zEx 2) ∈ wsL_restore := by decide +kernel
set_option maxRecDepth 100000 in
set_option maxHeartbeats 4000000 in
theorem mL_restore {l : Launch} {a : Nat → Nat} {cy : Nat → ClassId} {D : va_G} {tV : Nat} {sa : Nat → Nat} (hl : l.stackTraces = false) {P : Int → Sto → Prop} {X : Nat → Sto → Prop} {σ : Sto} {k0 : Nat} {k1 : Nat} (hk0 : zk k0 = 5) (hk1 : zk k1 = 9) (hq : vL_restore k0 k1 P σ) : zMX l yL_restore wsL_restore rL_restore a cy D tV sa [.ref (a k0), .ref (a k1)] σ (zPI P) X 1 6 :=
  zMXH_of (cc := cL_restore) (maxL := 3) (ret := (some .int)) (hh := [(0, 8, 11, 15)]) (by decide) rfl (Nat.le_of_ble_eq_true rfl) (L0 := [(0, .ref (a k0)), (1, .ref (a k1))]) rfl (fun p e s m args below meth c C hr ht => by
  unfold vL_restore at hq
  refine zr_aload_n C dL_restore_0 rfl (k := 1) rfl rfl ?_
  refine zr_iconst C dL_restore_1 rfl ?_
  refine zr_aload_n C dL_restore_2 rfl (k := 0) rfl rfl ?_
  refine zr_xcall (zrunVX C (st := [.int (zI 0), .ref (a k1)]) (mX6_restore hl hk0 hq) (cwV 0 C.2.2.2.2.1 gL_restore_X6_restore rfl rfl rfl (by decide +kernel) ⟨Nat.le_of_ble_eq_true rfl, Nat.le_of_ble_eq_true rfl⟩) (zE_5 hk0) (zk_lt hk0 (by decide)) (T := TX6) (N := 8) rfl rfl rfl (Nat.le_of_ble_eq_true rfl) dL_restore_3 ⟨(Nat.le_of_ble_eq_true rfl), (Nat.le_of_ble_eq_true rfl)⟩) rfl (fun i s9 H1 locs1 ls ce q9 hi hx hO hP hS hL h1 h2 h3 => ?_) (fun v s1 hv => ?_)
  · rcases (show i = 0 ∨ i = 1 ∨ i = 2 ∨ i = 3 by omega) with rfl | rfl | rfl | rfl
    · exact (hx.1 rfl).elim
    · exact (hx.2.1 rfl).elim
    · have hq := hx.2.2.1 rfl
      refine zr_catch C ht [] ⟨0, 8, 11, 15⟩ [] rfl 2 (by decide) (fun _ h => nomatch h) rfl (by decide) lL_restore_2 h1 h2 h3 ?_
      refine (?_ : zX p l e rL_restore s m args below meth c 3 a cy D (vx_MQ below (fun _ => zQo a cy D s.heap.size (zPI P)) (zXC a cy D s.heap.size X) args s 1 6 (zA a s.heap.size)) 1 6 s9 11 [(0, .ref (a k0)), (1, .ref (a k1))] [.ref q9]) H1 locs1 ls hO hP hS hL
      refine zr_astore_n C (L' := [(2, .ref q9), (0, .ref (a k0)), (1, .ref (a k1))]) dL_restore_11 rfl (by decide) rfl rfl ?_
      refine zr_iconst C dL_restore_12 rfl ?_
      exact zr_widen (Nat.le_of_ble_eq_true rfl) (Nat.le_of_ble_eq_true rfl) (zr_vx (zr_iret C hr dL_restore_13 ⟨_, rfl, hq⟩))
    · exact (hx.2.2.2 rfl).elim
  · obtain ⟨r1, rfl, hq⟩ := hv
    obtain ⟨h0, hq⟩ := hq
    refine zr_i2l C dL_restore_6 h0 rfl ?_
    obtain ⟨h0, hq⟩ := hq
    refine zr_last C hk1 (by decide) h0 dL_restore_7 rfl (fun s2 es2 => ?_)
    have hq := hq s2 es2
    refine zr_goto C (tgt := 14) dL_restore_8 (by decide) ?_
    refine zr_iconst C dL_restore_14 rfl ?_
    exact zr_widen (Nat.le_of_ble_eq_true rfl) (Nat.le_of_ble_eq_true rfl) (zr_vx (zr_iret C hr dL_restore_15 ⟨_, rfl, hq⟩)))
