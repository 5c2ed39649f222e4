/-! THE START: the law from its entry to its loop -/
theorem dL_law_0 : decode cL_law 0 = .ok (.new 8, 3) := by decide +kernel
theorem dL_law_3 : decode cL_law 3 = .ok (.dup, 1) := by decide +kernel
theorem dL_law_4 : decode cL_law 4 = .ok (.invokespecial 126, 3) := by decide +kernel
theorem dL_law_7 : decode cL_law 7 = .ok (.astore_n 1, 1) := by decide +kernel
theorem dL_law_8 : decode cL_law 8 = .ok (.new 127, 3) := by decide +kernel
theorem dL_law_11 : decode cL_law 11 = .ok (.dup, 1) := by decide +kernel
theorem dL_law_12 : decode cL_law 12 = .ok (.invokespecial 129, 3) := by decide +kernel
theorem dL_law_15 : decode cL_law 15 = .ok (.astore_n 2, 1) := by decide +kernel
theorem dL_law_16 : decode cL_law 16 = .ok (.iconst 1, 1) := by decide +kernel
theorem dL_law_17 : decode cL_law 17 = .ok (.newarray .long, 2) := by decide +kernel
theorem dL_law_19 : decode cL_law 19 = .ok (.astore_n 3, 1) := by decide +kernel
theorem dL_law_20 : decode cL_law 20 = .ok (.iconst 1, 1) := by decide +kernel
theorem dL_law_21 : decode cL_law 21 = .ok (.newarray .double, 2) := by decide +kernel
theorem dL_law_23 : decode cL_law 23 = .ok (.astore 4, 2) := by decide +kernel
theorem dL_law_25 : decode cL_law 25 = .ok (.iconst 0, 1) := by decide +kernel
theorem dL_law_26 : decode cL_law 26 = .ok (.istore 5, 2) := by decide +kernel
set_option maxRecDepth 20000 in
theorem st_l1 : Cond.classLink RL 8 RX6 ∈ wsL_law := by decide +kernel
set_option maxRecDepth 20000 in
theorem st_l2 : Cond.instantiable RX6 8 ∈ wsL_law := by decide +kernel
set_option maxRecDepth 20000 in
theorem st_l3 : Cond.initialized RX6 ∈ wsL_law := by decide +kernel
set_option maxRecDepth 20000 in
theorem st_l4 : Cond.methodLink RL 126 yX6_init ∈ wsL_law := by decide +kernel
set_option maxRecDepth 20000 in
theorem st_l5 : Cond.initialized yX6_init.cls ∈ wsL_law := by decide +kernel
set_option maxRecDepth 20000 in
theorem st_l6 : Cond.instanceMethod yX6_init ∈ wsL_law := by decide +kernel
set_option maxRecDepth 20000 in
theorem st_m1 : Cond.classLink RL 127 RX7 ∈ wsL_law := by decide +kernel
set_option maxRecDepth 20000 in
theorem st_m2 : Cond.instantiable RX7 19 ∈ wsL_law := by decide +kernel
set_option maxRecDepth 20000 in
theorem st_m3 : Cond.initialized RX7 ∈ wsL_law := by decide +kernel
set_option maxRecDepth 20000 in
theorem st_m4 : Cond.methodLink RL 129 yX7_init ∈ wsL_law := by decide +kernel
set_option maxRecDepth 20000 in
theorem st_m5 : Cond.initialized yX7_init.cls ∈ wsL_law := by decide +kernel
set_option maxRecDepth 20000 in
theorem st_m6 : Cond.instanceMethod yX7_init ∈ wsL_law := by decide +kernel
set_option maxRecDepth 20000 in
theorem st_b1 : Cond.arrayClass .long ∈ wsL_law := by decide +kernel
set_option maxRecDepth 20000 in
theorem st_b2 : Cond.arrayClass .double ∈ wsL_law := by decide +kernel
section JG
variable {p : Program} {l : Launch} {e : Env} {R : Room} {s : State} {m : MethodId} {args : Array Value} {below : List Frame} {meth : Method} {c : Code} {cc : ByteArray} {nL : Nat} {Ts : List Cond} {own : String} {D : va_G} {cy : Nat → ClassId} {Q : State → Prop} {cells slots : Nat} {pc : Nat} {ls : Array Slot} {rest : List Value} {H : Heap} {locs : List Loc} {sz b ci j : Nat} {fs : List Value} {E : va_E} {A : Nat → Prop}
def jG (D : va_G) (cy : Nat → ClassId) (sz b : Nat) (s : State) (H : Heap) (locs : List Loc) : Prop := H.size = sz + b ∧ jB D cy sz 0 b H ∧ va_S (jA sz 0) s.heap H locs
theorem g_new (C : jC p s m args meth c cc nL Ts own D cy) (hJ : jG D cy sz b s H locs) {C2 : String} {T : u_T} {N ci2 index : Nat} {fs2 : List Value} (hin : ∀ w ∈ u_ws C2 T N, w ∈ Ts) (ty : Nat → FieldType) (hty : ∀ k, k < N → parseFieldDescriptor (T k).2.2.1 = some (ty k)) (hcl : Cond.classLink own index C2 ∈ Ts) (hinst : Cond.instantiable C2 N ∈ Ts) (hini : Cond.initialized C2 ∈ Ts) (hc : vwCl[ci2]? = some (C2, T, N)) (hfs : ∀ j, j < N → defaultValue (ty j) = vp_V fs2 j) (hcells : cells + 1 ≤ R.cells) (hslots : slots + N ≤ R.slots) (d : decode cc pc = .ok (.new index, 3))
    (kk : ∀ H1 : Heap, H1.size = sz + b + 1 → va_at D vwCl (sz + b, .inr (ci2, fs2)) H1 → jB D cy sz 0 b H1 → va_S (jA sz 0) s.heap H1 locs → W p l e R s m args below meth c H1 locs (cells + 1) (slots + N) Q (F0 m (pc + 3) ls (.ref (sz + b) :: rest))) : W p l e R s m args below meth c H locs cells slots Q (F0 m pc ls rest) := by
  obtain ⟨hz, hB, hS⟩ := hJ
  have hKn := C.2.2.2.2.2.1.1.1 ci2 _ hc
  refine W.newcK C.1 C.2.1 C.2.2.2.1 (C.2.2.2.2.1 _ hcl) (C.2.2.2.2.1 _ hinst) (C.2.2.2.2.1 _ hini) rfl d hcells hslots hKn.2.1 hz fun H1 kC hkC e1 z1 o1 => kk H1 z1 ?_ (hB.kept (fun k a b' => o1 _ (by omega))) ⟨by have := hS.1; omega, fun x h1 h2 => (o1 x (by have := hS.1; omega)).trans (hS.2.1 x h1 h2), hS.2.2⟩
  exact ⟨_, hc, (u_born ty C.2.2.2.2.1 hin hKn hkC e1 hty).to hfs⟩
theorem g_call {n mc ms : Nat} {st0 : List Value} {a : Array Value} (hz : H.size = sz + b + 1) (hB : jB D cy sz 0 b H) (hS : va_S (jA sz 0) s.heap H locs) (hrun : va_Run p l e R s m args below meth c H locs cells slots mc ms (F0 m pc ls st0) rest (va_Qv (S := Unit) (fun _ => True) (fun _ t => jPost D cy sz b n t) (jA sz b) a) (jA sz b))
    (kk : ∀ (H1 : Heap) (locs1 : List Loc), jG D cy sz (b + n) s H1 locs1 → W p l e R s m args below meth c H1 locs1 (cells + mc) (slots + ms) Q (F0 m (pc + 3) ls rest)) : W p l e R s m args below meth c H locs cells slots Q (F0 m pc ls st0) := by
  refine va_callv hrun hS (fun q _ h => by unfold jA at h ⊢; omega) (fun q h => by unfold jA at h ⊢; omega) (fun u t H1 locs1 ht hvm _ hP hz1 hk1 hS1 => kk H1 locs1 ⟨?_, fun k h1 h2 => ?_, hS1⟩)
  · have := hP.1
    rw [ht] at this
    omega
  · by_cases q : k < b
    · exact (hB k h1 q).kept (hk1 _ (by show sz + k < _; omega) (by unfold jA; show ¬ _ ≤ sz + k; omega))
    · have := hP.2 k (by omega) (by omega)
      rw [ht] at this
      exact this
theorem g_run (C : jC p s m args meth c cc nL Ts own D cy) {y : MethodName} {ws ws' : List Cond} {rm : Room} {ci2 n mc ms index maxL na : Nat} {fs2 As st0 : List Value} {bytes : ByteArray} {L : List (Nat × Value)} (hL : lv_has ls nL L) (hz : H.size = sz + b + 1) (hN : va_at D vwCl (sz + b, .inr (ci2, fs2)) H) (hM : jM l y ws rm D cy sz b ci2 fs2 n As mc ms) (hG : GoodIn Ts ws) (hw : ws = Cond.code y bytes maxL none :: ws') (hrc : rm.cells = mc) (hrs : rm.slots = ms) (hlk : Cond.methodLink own index y ∈ Ts) (hini : Cond.initialized y.cls ∈ Ts) (hins : Cond.instanceMethod y ∈ Ts) (hnm : y.name = "<init>") (hd : y.cls ≠ "java/lang/invoke/MethodHandle" ∧ y.cls ≠ "java/lang/invoke/VarHandle" ∧ (parseMethodDescriptor y.desc).map (fun d => d.parameters.length) = some na) (hR : rm.frames + 1 ≤ R.frames ∧ 8 + (maxL + 11) + rm.locals ≤ R.locals) (hna : As.length = na) (hst : st0 = As.reverse ++ .ref (sz + b) :: rest) (hcat : (rest.map fun v => v.category).sum ≤ 8) (d : decode cc pc = .ok (.invokespecial index, 3)) (hf : cells + mc ≤ R.cells ∧ slots + ms ≤ R.slots) :
    va_Run p l e R s m args below meth c H locs cells slots mc ms (F0 m pc ls st0) rest (va_Qv (S := Unit) (fun _ => True) (fun _ t => jPost D cy sz b n t) (jA sz b) (Value.ref (sz + b) :: As).toArray) (jA sz b) :=
  va_runI (b := sz + b) (As := As) (rest := rest) ⟨C.1, C.2.1, C.2.2.1, C.2.2.2.1, C.2.2.2.2.1⟩ hM (cwI na C.2.2.2.2.1 hG hw hrc hrs (C.2.2.2.2.1 _ hini) (C.2.2.2.2.1 _ hlk) (C.2.2.2.2.1 _ hins) hnm hd hR) ⟨jPre_blind, fun U hU hW => ⟨rfl, by rw [hU]; exact hz, by rw [hU]; exact hN, C.2.2.2.2.2.1.warm hW⟩⟩ rfl hna hL.1 hst (by show 2 * 0 + _ ≤ 8; omega) d hf
theorem g_newa (C : jC p s m args meth c cc nL Ts own D cy) (hJ : jG D cy sz b s H locs) {atype : ArrayType} {ty : FieldType} (hty : newarray.typeOf atype = ty) (harr : Cond.arrayClass ty ∈ Ts) {cA : ClassId} {a0 : vp_A} (hfc : s.vm.findClass ("[" ++ ty.toString) = some cA) (hE : zE (ad sz) cy zs0 b = .inl (cA, a0)) {n : Int32} {N : Nat} (ha : ∀ cA : ClassId, vp_cell cA a0 = arrV cA N (fun _ => defaultValue ty)) (hn : ¬ n < 0) (hN : n.toNatClampNeg = N) (hbytes : N * componentBytes ty ≤ 536870912) (hcells : cells + 1 ≤ R.cells) (hslots : slots + N ≤ R.slots) (d : decode cc pc = .ok (.newarray atype, 2))
    (kk : ∀ H1 : Heap, jG D cy sz (b + 1) s H1 locs → W p l e R s m args below meth c H1 locs (cells + 1) (slots + N) Q (F0 m (pc + 2) ls (.ref (sz + b) :: rest))) : W p l e R s m args below meth c H locs cells slots Q (F0 m pc ls (.int n :: rest)) := by
  subst hty
  obtain ⟨hz, hB, hS⟩ := hJ
  refine va_newaK C.1 C.2.1 (C.2.2.2.2.1 _ harr) rfl d rfl hn hN hbytes hcells hslots hz fun H1 cA' e1 z1 o1 hAr hNm => kk H1 ⟨by omega, fun k a b' => ?_, by have := hS.1; omega, fun x h1 h2 => (o1 x (by have := hS.1; omega)).trans (hS.2.1 x h1 h2), hS.2.2⟩
  by_cases q : k = b
  · subst q
    unfold jAt
    rw [hE]
    show H1[sz + k]? = some (vp_cell _ _)
    rw [ha]
    have : cA' = cA := Option.some.inj (hNm.symm.trans hfc)
    rw [← this]
    exact e1
  · exact (hB k a (by omega)).kept (o1 _ (by show sz + k < _; omega))
end JG
theorem jE12 {sz k N : Nat} {cy : Nat → ClassId} (h : zk k = 12) (hn : zn k = N) : zE (ad sz) cy zs0 k = .inl (cy 5, N, .inr (.inr (.inr (.inl (fun _ => zD 0))))) := by rw [zE_12 h, hn]; rfl
theorem jV12 {N : Nat} (cA : ClassId) : vp_cell cA (N, .inr (.inr (.inr (.inl (fun _ => zD 0))))) = arrV cA N (fun _ => defaultValue .double) := by rw [vp_cell_d]; rfl
set_option maxRecDepth 100000 in
set_option maxHeartbeats 4000000 in
theorem whole_start {p : Program} {e : Env} {s : State} {m : MethodId} {below : List Frame} {meth : Method} {c : Code} (l : Launch) (hflags : l.flags = flags0) {b L : Nat} {xs : Nat → Int32} (hL : L ≤ 2048) (C0 : lw_At p s m meth c b L xs) : W p l e room_1 s m #[Value.ref b] below meth c s.heap [] 0 0 (lw_Z below #[Value.ref b] s) (entryFrame m ([Value.ref b] : List Value).toArray 9) := by
  obtain ⟨D, cy, tV, C, hAO⟩ := st_C (l := l) C0
  obtain ⟨hx, hb, hr, hml, hown, hts, hX, hbl, hlocks, hgv⟩ := id C0
  have J : jC p s m #[Value.ref b] meth c cL_law 9 wsL_law RL D cy := ⟨C.1, C.2.1, C.2.2.1, C.2.2.2.1, C.2.2.2.2.1, ⟨C.2.2.2.2.2.1, C.2.2.2.2.2.2.2.2.1, hAO⟩, C.2.2.2.2.2.2.2.1⟩
  have hst : l.stackTraces = false := by
    unfold Launch.stackTraces
    rw [hflags]
    decide +kernel
  have hend : ∀ (cells slots : Nat) (σ : Sto) (L : List (Nat × Value)), cells ≤ 601024 → slots ≤ 7293034 → zX p l e room_1 s m #[Value.ref b] below meth c 9 (ad s.heap.size) cy D (lw_Z below #[Value.ref b] s) cells slots σ 2383 L [.int (zI 1)] := fun cells slots σ L h1 h2 H locs ls hO hP hS hL => by
    refine va_forget (fun q hq => ?_) (W.widen h1 h2 ?_)
    · rcases hS.2.2 q hq with ⟨k, -, e⟩ | h
      · unfold ad at e; omega
      · exact h
    · exact W.base (lw_ret (Drawn.sameBut.refl s.drawn lw_cs) hx hb hr hlocks dL_law_2383)
  have hl0 := lv_entry ([.ref b]) (n := 9) (Nat.le_of_ble_eq_true rfl)
  rw [lg_entry_eq]
  generalize (lg_sl ([.ref b]) ++ List.replicate (9 - (lg_sl ([.ref b])).length) Slot.unset).toArray = ls at hl0 ⊢
  have hL0 : lv_has ls 9 [(0, .ref b)] := hl0
  have G0 : jG D cy s.heap.size 0 s s.heap [] := ⟨rfl, fun k h1 h2 => absurd h2 (Nat.not_lt_zero _), va_S.rf⟩
  refine g_new J G0 (ci2 := 5) (fs2 := [.null, .null, .null, .int 0, .null, .null, .null, .null]) st_v5 tyX6 tyX6_ok st_l1 st_l2 st_l3 rfl (fun j hj => by rcases (show j = 0 ∨ j = 1 ∨ j = 2 ∨ j = 3 ∨ j = 4 ∨ j = 5 ∨ j = 6 ∨ j = 7 by omega) with rfl | rfl | rfl | rfl | rfl | rfl | rfl | rfl <;> rfl) (Nat.le_of_ble_eq_true rfl) (Nat.le_of_ble_eq_true rfl) dL_law_0 (fun H1 z1 n1 b1 s1 => ?_)
  refine lv_dup hx hb dL_law_3 rfl ?_
  refine g_call z1 b1 s1 (g_run J hL0 z1 n1 (kX6_init (l := l) (D := D) (cy := cy) (sz := s.heap.size) (b := 0) zk0) gL_law_X6_init rfl rfl rfl st_l4 st_l5 st_l6 rfl (by decide +kernel) ⟨(Nat.le_of_ble_eq_true rfl), (Nat.le_of_ble_eq_true rfl)⟩ rfl rfl (Nat.le_of_ble_eq_true rfl) dL_law_4 ⟨(Nat.le_of_ble_eq_true rfl), (Nat.le_of_ble_eq_true rfl)⟩) (fun H2 locs2 G2 => ?_)
  have G2 : jG D cy s.heap.size 283 s H2 locs2 := G2
  refine lv_astore_n (lv' := [(1, .ref (s.heap.size + 0)), (0, .ref b)]) hx hb dL_law_7 rfl hL0 (by decide) rfl (fun ls1 hL1 => ?_)
  refine g_new J G2 (ci2 := 6) (fs2 := [.null, .null, .int 0, .null, .int 0, .null, .null, .int 0, .int 0, .int 0, .null, .null, .null, .null, .null, .null, .null, .int 0, .null]) st_v6 tyX7 tyX7_ok st_m1 st_m2 st_m3 rfl (fun j hj => by rcases (show j = 0 ∨ j = 1 ∨ j = 2 ∨ j = 3 ∨ j = 4 ∨ j = 5 ∨ j = 6 ∨ j = 7 ∨ j = 8 ∨ j = 9 ∨ j = 10 ∨ j = 11 ∨ j = 12 ∨ j = 13 ∨ j = 14 ∨ j = 15 ∨ j = 16 ∨ j = 17 ∨ j = 18 by omega) with rfl | rfl | rfl | rfl | rfl | rfl | rfl | rfl | rfl | rfl | rfl | rfl | rfl | rfl | rfl | rfl | rfl | rfl | rfl <;> rfl) (Nat.le_of_ble_eq_true rfl) (Nat.le_of_ble_eq_true rfl) dL_law_8 (fun H3 z3 n3 b3 s3 => ?_)
  refine lv_dup hx hb dL_law_11 rfl ?_
  refine g_call z3 b3 s3 (g_run J hL1 z3 n3 (kX7_init (l := l) (D := D) (cy := cy) (sz := s.heap.size) (b := 283) zk283) gL_law_X7_init rfl rfl rfl st_m4 st_m5 st_m6 rfl (by decide +kernel) ⟨(Nat.le_of_ble_eq_true rfl), (Nat.le_of_ble_eq_true rfl)⟩ rfl rfl (Nat.le_of_ble_eq_true rfl) dL_law_12 ⟨(Nat.le_of_ble_eq_true rfl), (Nat.le_of_ble_eq_true rfl)⟩) (fun H4 locs4 G4 => ?_)
  have G4 : jG D cy s.heap.size 297 s H4 locs4 := G4
  refine lv_astore_n (lv' := [(2, .ref (s.heap.size + 283)), (1, .ref (s.heap.size + 0)), (0, .ref b)]) hx hb dL_law_15 rfl hL1 (by decide) rfl (fun ls2 hL2 => ?_)
  refine lv_iconst (v := 1) hx hb dL_law_16 (by decide) ?_
  refine g_newa J G4 (atype := .long) rfl st_b1 (j_fcJ J) (jE9 zk297 zn297.1) (N := 1) jV9 (by decide) (by decide +kernel) (Nat.le_of_ble_eq_true rfl) (Nat.le_of_ble_eq_true rfl) (Nat.le_of_ble_eq_true rfl) dL_law_17 (fun H5 G5 => ?_)
  have G5 : jG D cy s.heap.size 298 s H5 locs4 := G5
  refine lv_astore_n (lv' := [(3, .ref (s.heap.size + 297)), (2, .ref (s.heap.size + 283)), (1, .ref (s.heap.size + 0)), (0, .ref b)]) hx hb dL_law_19 rfl hL2 (by decide) rfl (fun ls3 hL3 => ?_)
  refine lv_iconst (v := 1) hx hb dL_law_20 (by decide) ?_
  refine g_newa J G5 (atype := .double) rfl st_b2 (j_fcD J) (jE12 zk298 zn297.2) (N := 1) jV12 (by decide) (by decide +kernel) (Nat.le_of_ble_eq_true rfl) (Nat.le_of_ble_eq_true rfl) (Nat.le_of_ble_eq_true rfl) dL_law_21 (fun H6 G6 => ?_)
  have G6 : jG D cy s.heap.size 299 s H6 locs4 := G6
  refine lv_astore (lv' := [(4, .ref (s.heap.size + 298)), (3, .ref (s.heap.size + 297)), (2, .ref (s.heap.size + 283)), (1, .ref (s.heap.size + 0)), (0, .ref b)]) hx hb dL_law_23 hL3 (by decide) rfl (fun ls4 hL4 => ?_)
  refine lv_iconst (v := zI 0) hx hb dL_law_25 rfl ?_
  refine lv_istore (lv' := [(5, .int (zI 0)), (4, .ref (s.heap.size + 298)), (3, .ref (s.heap.size + 297)), (2, .ref (s.heap.size + 283)), (1, .ref (s.heap.size + 0)), (0, .ref b)]) hx hb dL_law_26 hL4 (by decide) rfl (fun ls5 hL5 => ?_)
  have K := law_loop (e := e) (below := below) (Q := lw_Z below #[Value.ref b] s) hst C hX hbl (st_A b hbl) hL hend (L + 1) 0 zs0 (by omega) (by omega) LI_0
  refine W.widen (k := 299 + 4 * 0) (n := 126660 + 24 * 0) (Nat.le_of_ble_eq_true rfl) (Nat.le_of_ble_eq_true rfl) ?_
  exact K H6 locs4 ls5 zO_0 (fun k q hk => by
    obtain ⟨h1, rfl⟩ := zW_some hk
    exact G6.2.1 k (Nat.zero_le k) h1) ⟨G6.2.2.1, fun q h1 h2 => G6.2.2.2.1 q h1 (fun z => h2 (Or.inr z)), fun q hq => Or.inr (G6.2.2.2.2 q hq)⟩ hL5
