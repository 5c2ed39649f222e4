/-! THE CONSTRUCTORS: cells are made one behind the other, from the address sz on: cell k of the layout lies at sz + k -/
def zs0 : Sto := fun _ _ => 0
def ad (sz : Nat) : Nat → Nat := fun k => sz + k
def jA (sz b : Nat) : Nat → Prop := fun q => sz + b ≤ q
def jAt (D : va_G) (cy : Nat → ClassId) (sz k : Nat) (H : Heap) : Prop := va_at D vwCl (sz + k, zE (ad sz) cy zs0 k) H
/-- the cells lo .. hi - 1 of the layout stand as new ones -/
def jB (D : va_G) (cy : Nat → ClassId) (sz lo hi : Nat) (H : Heap) : Prop := ∀ k, lo ≤ k → k < hi → jAt D cy sz k H
def jT (D : va_G) (cy : Nat → ClassId) (U : State) : Prop := va_K D vwCl (zty cy) U ∧ zNw U ∧ va_AO RX3 U
theorem jT.warm {D : va_G} {cy : Nat → ClassId} {s U : State} (hW : s.WarmedH U.vm) (h : jT D cy s) : jT D cy U := ⟨va_K.moved hW.alike h.1, h.2.1.warm hW, va_AO.moved hW.alike h.2.2⟩
def jPre (D : va_G) (cy : Nat → ClassId) (sz b ci : Nat) (fs : List Value) (U : State) : Prop := U.heap.size = sz + b + 1 ∧ va_at D vwCl (sz + b, .inr (ci, fs)) U.heap ∧ jT D cy U
def jPost (D : va_G) (cy : Nat → ClassId) (sz b n : Nat) (t : State) : Prop := t.heap.size = sz + b + n ∧ jB D cy sz b (b + n) t.heap
/-- a constructor: the cell b is its object, the n cells from b on stand when it returns -/
def jM (l : Launch) (y : MethodName) (ws : List Cond) (rm : Room) (D : va_G) (cy : Nat → ClassId) (sz b ci : Nat) (fs : List Value) (n : Nat) (As : List Value) (mc ms : Nat) : Prop :=
  Met l y ws rm (va_Pc (.ref (sz + b) :: As) (jPre D cy sz b ci fs)) (va_Qv (S := Unit) (fun _ => True) (fun _ t => jPost D cy sz b n t) (jA sz b)) mc ms (jA sz b)
def jC (p : Program) (s : State) (m : MethodId) (args : Array Value) (meth : Method) (c : Code) (cc : ByteArray) (nL : Nat) (Ts : List Cond) (own : String) (D : va_G) (cy : Nat → ClassId) : Prop :=
  p.tables.exec = Jvm.exec ∧ c.code = cc ∧ c.maxLocals = nL ∧ s.vm.findClass own = some m.cls ∧ (∀ w ∈ Ts, w.before args s = true) ∧ jT D cy s ∧ meth.locks = false
/-- inside: the object's fields, j cells behind it -/
def jH (D : va_G) (cy : Nat → ClassId) (sz b : Nat) (E : va_E) (j : Nat) (A : Nat → Prop) (s : State) (H : Heap) (locs : List Loc) : Prop := H.size = sz + (b + 1 + j) ∧ va_at D vwCl (sz + b, E) H ∧ jB D cy sz (b + 1) (b + 1 + j) H ∧ va_S A s.heap H locs
theorem jB.kept {D : va_G} {cy : Nat → ClassId} {sz lo hi : Nat} {H H1 : Heap} (h : jB D cy sz lo hi H) (hq : ∀ k, lo ≤ k → k < hi → H1[sz + k]? = H[sz + k]?) : jB D cy sz lo hi H1 := fun k a b => (h k a b).kept (hq k a b)
section JR
variable {p : Program} {l : Launch} {e : Env} {R : Room} {s : State} {m : MethodId} {args : Array Value} {below : List Frame} {meth : Method} {c : Code} {cc : ByteArray} {nL : Nat} {Ts : List Cond} {own : String} {D : va_G} {cy : Nat → ClassId} {Q : State → Prop} {cells slots : Nat} {pc : Nat} {ls : Array Slot} {rest : List Value} {H : Heap} {locs : List Loc} {sz b ci j : Nat} {fs : List Value} {E : va_E} {A : Nat → Prop}
theorem jM_of {y : MethodName} {ws ws' : List Cond} {rm : Room} {maxL n mc ms : Nat} {As : List Value} {L0 : List (Nat × Value)} (hy : plainName y.cls = true) (hw : ws = Cond.code y cc maxL none :: ws') (hlen : (lg_sl (.ref (sz + b) :: As)).length ≤ maxL) (hL0 : lv_args 0 (.ref (sz + b) :: As) = L0)
    (body : ∀ (p : Program) (e : Env) (s : State) (m : MethodId) (args : Array Value) (below : List Frame) (meth : Method) (c : Code) (ls : Array Slot), jC p s m args meth c cc maxL ws y.cls D cy → meth.name = y.name → meth.sig.returnType = none → lv_has ls maxL L0 → jH D cy sz b (.inr (ci, fs)) 0 (jA sz b) s s.heap [] → W p l e rm s m args below meth c s.heap [] 0 0 (MQ below (va_Qv (S := Unit) (fun _ => True) (fun _ t => jPost D cy sz b n t) (jA sz b)) args s mc ms (jA sz b)) (F0 m 0 ls [])) : jM l y ws rm D cy sz b ci fs n As mc ms := by
  refine Met.ofW (cc := cc) (maxL := maxL) (ret := none) hy hw ?_
  intro p e s m args below meth c s₁ B hml hv
  obtain ⟨rfl, h1, h2, h3⟩ := hv
  have hl := lv_entry (.ref (sz + b) :: As) (n := maxL) hlen
  rw [hL0] at hl
  rw [lg_entry_eq]
  exact body p e s m _ below meth c _ ⟨B.exec, B.bytes, hml, findClass_of_methodNamed B.named, atoms_spec (ws := ws) B.pre, h3, B.notSynchronized⟩ (name_of_methodNamed B.named B.method).1 B.returns hl ⟨by rw [h1]; omega, h2, fun k a b => by omega, va_S.rf⟩
/-- Object's constructor -/
theorem j_obj (C : jC p s m args meth c cc nL Ts own D cy) {idx : Nat} {a : Nat} {L : List (Nat × Value)} (hL : lv_has ls nL L) (h1 : Cond.methodLink own idx objectInit ∈ Ts) (h2 : Cond.instanceMethod objectInit ∈ Ts) (h3 : Cond.code objectInit ⟨#[0xb1]⟩ 1 none ∈ Ts) (d : decode cc pc = .ok (.invokespecial idx, 3)) (hf : 1 ≤ R.frames) (hl : 12 ≤ R.locals) (kk : W p l e R s m args below meth c H locs cells slots Q (F0 m (pc + 3) ls [])) : W p l e R s m args below meth c H locs cells slots Q (F0 m pc ls [.ref a]) :=
  W.objInit C.1 C.2.1 C.2.2.2.1 (C.2.2.2.2.1 _ h1) (C.2.2.2.2.1 _ h2) (C.2.2.2.2.1 _ h3) rfl (by rw [C.2.2.1]; exact hL.1) rfl d hf (by show 2 * 0 + 0 + 12 ≤ _; omega) kk
/-- a row -/
theorem j_newa (C : jC p s m args meth c cc nL Ts own D cy) (hJ : jH D cy sz b E j A s H locs) {atype : ArrayType} {ty : FieldType} (hty : newarray.typeOf atype = ty) (harr : Cond.arrayClass ty ∈ Ts) {cA : ClassId} {a0 : vp_A} (hfc : s.vm.findClass ("[" ++ ty.toString) = some cA) (hE : zE (ad sz) cy zs0 (b + 1 + j) = .inl (cA, a0)) {n : Int32} {N : Nat} (ha : ∀ cA : ClassId, vp_cell cA a0 = arrV cA N (fun _ => defaultValue ty)) (hn : ¬ n < 0) (hN : n.toNatClampNeg = N) (hbytes : N * componentBytes ty ≤ 536870912) (hcells : cells + 1 ≤ R.cells) (hslots : slots + N ≤ R.slots) (d : decode cc pc = .ok (.newarray atype, 2))
    (kk : ∀ H1 : Heap, jH D cy sz b E (j + 1) A s H1 locs → W p l e R s m args below meth c H1 locs (cells + 1) (slots + N) Q (F0 m (pc + 2) ls (.ref (sz + (b + 1 + j)) :: rest))) : W p l e R s m args below meth c H locs cells slots Q (F0 m pc ls (.int n :: rest)) := by
  subst hty
  obtain ⟨hz, hO, hB, hS⟩ := hJ
  refine va_newaK C.1 C.2.1 (C.2.2.2.2.1 _ harr) rfl d rfl hn hN hbytes hcells hslots hz fun H1 cA' e1 z1 o1 hAr hNm => kk H1 ⟨by omega, hO.kept (o1 _ (by show sz + b < _; omega)), fun k a b' => ?_, by have := hS.1; omega, fun x h1 h2 => (o1 x (by have := hS.1; omega)).trans (hS.2.1 x h1 h2), hS.2.2⟩
  by_cases q : k = b + 1 + j
  · subst q
    unfold jAt
    rw [hE]
    show H1[sz + (b + 1 + j)]? = some (vp_cell _ _)
    rw [ha]
    have : cA' = cA := Option.some.inj (hNm.symm.trans hfc)
    rw [← this]
    exact e1
  · exact (hB k a (by omega)).kept (o1 _ (by show sz + k < _; omega))
/-- a new object behind the cells -/
def jN (D : va_G) (cy : Nat → ClassId) (sz b : Nat) (E : va_E) (j : Nat) (A : Nat → Prop) (ci2 : Nat) (fs2 : List Value) (s : State) (H : Heap) (locs : List Loc) : Prop := H.size = sz + (b + 1 + j) + 1 ∧ va_at D vwCl (sz + (b + 1 + j), .inr (ci2, fs2)) H ∧ va_at D vwCl (sz + b, E) H ∧ jB D cy sz (b + 1) (b + 1 + j) H ∧ va_S A s.heap H locs
theorem j_new (C : jC p s m args meth c cc nL Ts own D cy) (hJ : jH D cy sz b E j A s H locs) {C2 : String} {T : u_T} {N ci2 index : Nat} {fs2 : List Value} (hin : ∀ w ∈ u_ws C2 T N, w ∈ Ts) (ty : Nat → FieldType) (hty : ∀ k, k < N → parseFieldDescriptor (T k).2.2.1 = some (ty k)) (hcl : Cond.classLink own index C2 ∈ Ts) (hinst : Cond.instantiable C2 N ∈ Ts) (hini : Cond.initialized C2 ∈ Ts) (hc : vwCl[ci2]? = some (C2, T, N)) (hfs : ∀ j, j < N → defaultValue (ty j) = vp_V fs2 j) (hcells : cells + 1 ≤ R.cells) (hslots : slots + N ≤ R.slots) (d : decode cc pc = .ok (.new index, 3))
    (kk : ∀ H1 : Heap, jN D cy sz b E j A ci2 fs2 s H1 locs → (∀ q, q < sz + b → H1[q]? = H[q]?) → W p l e R s m args below meth c H1 locs (cells + 1) (slots + N) Q (F0 m (pc + 3) ls (.ref (sz + (b + 1 + j)) :: rest))) : W p l e R s m args below meth c H locs cells slots Q (F0 m pc ls rest) := by
  obtain ⟨hz, hO, hB, hS⟩ := hJ
  have hKn := C.2.2.2.2.2.1.1.1 ci2 _ hc
  refine W.newcK C.1 C.2.1 C.2.2.2.1 (C.2.2.2.2.1 _ hcl) (C.2.2.2.2.1 _ hinst) (C.2.2.2.2.1 _ hini) rfl d hcells hslots hKn.2.1 hz fun H1 kC hkC e1 z1 o1 => kk H1 ⟨z1, ?_, hO.kept (o1 _ (by show sz + b < _; omega)), hB.kept (fun k a b' => o1 _ (by omega)), by have := hS.1; omega, fun x h1 h2 => (o1 x (by have := hS.1; omega)).trans (hS.2.1 x h1 h2), hS.2.2⟩ (fun q hq => o1 q (by omega))
  exact ⟨_, hc, (u_born ty C.2.2.2.2.1 hin hKn hkC e1 hty).to hfs⟩
theorem jPre_blind {As : List Value} : FrameBlind (va_Pc As (jPre D cy sz b ci fs)) := fun _ar U _g _mk h => ⟨h.1, h.2.1, h.2.2.1, h.2.2.2.warm (State.WarmedH.refl U)⟩
theorem jPreS (C : jC p s m args meth c cc nL Ts own D cy) {ci2 : Nat} {fs2 As : List Value} (hJ : jN D cy sz b E j A ci2 fs2 s H locs) : PreS s H (va_Pc (.ref (sz + (b + 1 + j)) :: As) (jPre D cy sz (b + 1 + j) ci2 fs2)) (.ref (sz + (b + 1 + j)) :: As) :=
  ⟨jPre_blind, fun U hU hW => ⟨rfl, by rw [hU]; exact hJ.1, by rw [hU]; exact hJ.2.1, C.2.2.2.2.2.1.warm hW⟩⟩
/-- its constructor has returned -/
theorem j_call {ci2 n mc ms : Nat} {fs2 st0 : List Value} {a : Array Value} (hA : ∀ q, sz + b ≤ q → A q) (hJ : jN D cy sz b E j A ci2 fs2 s H locs) (hrun : va_Run p l e R s m args below meth c H locs cells slots mc ms (F0 m pc ls st0) rest (va_Qv (S := Unit) (fun _ => True) (fun _ t => jPost D cy sz (b + 1 + j) n t) (jA sz (b + 1 + j)) a) (jA sz (b + 1 + j)))
    (kk : ∀ (H1 : Heap) (locs1 : List Loc), jH D cy sz b E (j + n) A s H1 locs1 → (∀ q, q < sz + b → H1[q]? = H[q]?) → W p l e R s m args below meth c H1 locs1 (cells + mc) (slots + ms) Q (F0 m (pc + 3) ls rest)) : W p l e R s m args below meth c H locs cells slots Q (F0 m pc ls st0) := by
  obtain ⟨hz, hN, hO, hB, hS⟩ := hJ
  refine va_callv hrun hS (fun q _ h => hA q (by unfold jA at h; omega)) (fun q h => hA q (by unfold jA at h; omega)) (fun u t H1 locs1 ht hvm _ hP hz1 hk1 hS1 => kk H1 locs1 ⟨?_, ?_, fun k h1 h2 => ?_, hS1⟩ (fun q hq => hk1 q (by omega) (by unfold jA; omega)))
  · have := hP.1
    rw [ht] at this
    omega
  · exact hO.kept (hk1 _ (by show sz + b < _; omega) (by unfold jA; show ¬ _ ≤ sz + b; omega))
  · by_cases q : k < b + 1 + j
    · exact (hB k h1 q).kept (hk1 _ (by show sz + k < _; omega) (by unfold jA; show ¬ _ ≤ sz + k; omega))
    · have := hP.2 k (by omega) (by omega)
      rw [ht] at this
      exact this
theorem j_runN (C : jC p s m args meth c cc nL Ts own D cy) {y : MethodName} {ws ws' : List Cond} {rm : Room} {ci2 n mc ms index maxL na : Nat} {fs2 As st0 : List Value} {bytes : ByteArray} {L : List (Nat × Value)} (hL : lv_has ls nL L) (hJ : jN D cy sz b E j A ci2 fs2 s H locs) (hM : jM l y ws rm D cy sz (b + 1 + j) ci2 fs2 n As mc ms) (hG : GoodIn Ts ws) (hw : ws = Cond.code y bytes maxL none :: ws') (hrc : rm.cells = mc) (hrs : rm.slots = ms) (hlk : (own, index, y, "InflectionGuesser") ∈ zNM) (hini : Cond.initialized y.cls ∈ Ts) (hins : Cond.instanceMethod y ∈ Ts) (hnm : y.name = "<init>") (hd : y.cls ≠ "java/lang/invoke/MethodHandle" ∧ y.cls ≠ "java/lang/invoke/VarHandle" ∧ (parseMethodDescriptor y.desc).map (fun d => d.parameters.length) = some na) (hR : rm.frames + 1 ≤ R.frames ∧ 8 + (maxL + 11) + rm.locals ≤ R.locals) (hna : As.length = na) (hst : st0 = As.reverse ++ .ref (sz + (b + 1 + j)) :: rest) (hcat : (rest.map fun v => v.category).sum ≤ 8) (d : decode cc pc = .ok (.invokespecial index, 3)) (hf : cells + mc ≤ R.cells ∧ slots + ms ≤ R.slots) :
    va_Run p l e R s m args below meth c H locs cells slots mc ms (F0 m pc ls st0) rest (va_Qv (S := Unit) (fun _ => True) (fun _ t => jPost D cy sz (b + 1 + j) n t) (jA sz (b + 1 + j)) (Value.ref (sz + (b + 1 + j)) :: As).toArray) (jA sz (b + 1 + j)) :=
  va_runIN (b := sz + (b + 1 + j)) (As := As) (rest := rest) ⟨C.1, C.2.1, C.2.2.1, C.2.2.2.1, C.2.2.2.2.1⟩ hM ⟨va_cnB na C.2.2.2.2.1 hG hw hrc hrs (C.2.2.2.2.2.1.2.1.2 _ hlk) (C.2.2.2.2.1 _ hini) hd hR, hnm, C.2.2.2.2.1 _ hins⟩ (jPreS C hJ) rfl hna hL.1 hst (by show 2 * 0 + _ ≤ 8; omega) d hf
theorem j_runI (C : jC p s m args meth c cc nL Ts own D cy) {y : MethodName} {ws ws' : List Cond} {rm : Room} {ci2 n mc ms index maxL na : Nat} {fs2 As st0 : List Value} {bytes : ByteArray} {L : List (Nat × Value)} (hL : lv_has ls nL L) (hJ : jN D cy sz b E j A ci2 fs2 s H locs) (hM : jM l y ws rm D cy sz (b + 1 + j) ci2 fs2 n As mc ms) (hG : GoodIn Ts ws) (hw : ws = Cond.code y bytes maxL none :: ws') (hrc : rm.cells = mc) (hrs : rm.slots = ms) (hlk : Cond.methodLink own index y ∈ Ts) (hini : Cond.initialized y.cls ∈ Ts) (hins : Cond.instanceMethod y ∈ Ts) (hnm : y.name = "<init>") (hd : y.cls ≠ "java/lang/invoke/MethodHandle" ∧ y.cls ≠ "java/lang/invoke/VarHandle" ∧ (parseMethodDescriptor y.desc).map (fun d => d.parameters.length) = some na) (hR : rm.frames + 1 ≤ R.frames ∧ 8 + (maxL + 11) + rm.locals ≤ R.locals) (hna : As.length = na) (hst : st0 = As.reverse ++ .ref (sz + (b + 1 + j)) :: rest) (hcat : (rest.map fun v => v.category).sum ≤ 8) (d : decode cc pc = .ok (.invokespecial index, 3)) (hf : cells + mc ≤ R.cells ∧ slots + ms ≤ R.slots) :
    va_Run p l e R s m args below meth c H locs cells slots mc ms (F0 m pc ls st0) rest (va_Qv (S := Unit) (fun _ => True) (fun _ t => jPost D cy sz (b + 1 + j) n t) (jA sz (b + 1 + j)) (Value.ref (sz + (b + 1 + j)) :: As).toArray) (jA sz (b + 1 + j)) :=
  va_runI (b := sz + (b + 1 + j)) (As := As) (rest := rest) ⟨C.1, C.2.1, C.2.2.1, C.2.2.2.1, C.2.2.2.2.1⟩ hM (cwI na C.2.2.2.2.1 hG hw hrc hrs (C.2.2.2.2.1 _ hini) (C.2.2.2.2.1 _ hlk) (C.2.2.2.2.1 _ hins) hnm hd hR) (jPreS C hJ) rfl hna hL.1 hst (by show 2 * 0 + _ ≤ 8; omega) d hf
/-- a final field of the object -/
theorem j_put0 (C : jC p s m args meth c cc nL Ts own D cy) (hO : va_at D vwCl (sz + b, .inr (ci, fs)) H) (hS0 : va_S A s.heap H locs) (hA : A (sz + b)) {Cn : String} {T : u_T} {N index : Nat} (hin : ∀ w ∈ u_ws Cn T N, w ∈ Ts) (ty0 : Nat → FieldType) (hty : ∀ k, k < N → parseFieldDescriptor (T k).2.2.1 = some (ty0 k)) (hnm : ∀ a, a < N → ∀ b, b < N → a ≠ b → (T a).2.1 ≠ (T b).2.1) (hc : vwCl[ci]? = some (Cn, T, N)) (k : Nat) (hk : k < N) (hlk : Cond.fieldLink own index (T k).1 (T k).2.1 (T k).2.2.1 ∈ Ts) (hfin : (T k).2.2.2 = true) (hin2 : meth.name = "<init>") (hdecl : (T k).1 = own) {ty : FieldType} {v : Value} (hd : parseFieldDescriptor (T k).2.2.1 = some ty) (hn : narrow ty v = v) (hfit : fits ty v = true) (hl : k < fs.length) (hdg : decode cc pc = .ok (.putfield index, 3))
    (kk : ∀ (H1 : Heap) (locs1 : List Loc), va_at D vwCl (sz + b, .inr (ci, fs.set k v)) H1 → H1.size = H.size → (∀ q, q ≠ sz + b → H1[q]? = H[q]?) → va_S A s.heap H1 locs1 → W p l e R s m args below meth c H1 locs1 cells slots Q (F0 m (pc + 3) ls rest)) : W p l e R s m args below meth c H locs cells slots Q (F0 m pc ls (v :: .ref (sz + b) :: rest)) := by
  have hts := C.2.2.2.2.1
  have hK := C.2.2.2.2.2.1.1
  have hap := va_apart (own := own) hts hin ty0 hty hnm hK hc
  obtain ⟨r, h1, cell, q1, q2, q3, q4⟩ := hO
  have hr : r = (Cn, T, N) := Option.some.inj (h1.symm.trans hc)
  subst hr
  obtain ⟨hS, hfc, kC, hkC, hkind⟩ := hK.1 ci _ hc
  obtain ⟨cf, kf, fi, f, hi, hsl⟩ := hS k hk
  have hlay := hts _ (hin _ (u_in_lay hk))
  unfold u_lay at hlay
  rw [if_pos hfin] at hlay
  have hst := (u_facts hfc hkC (u_lays hts hin hk) hi).1
  have hcf : m.cls = cf := by
    obtain ⟨_, _, c', _, _, _, -, -, hf', -, -, -, hown2, -⟩ := Cond.laysFinal_spec hlay
    have e1 : c' = cf := by have := hi.symm.trans hf'; simp at this; exact this.1.symm
    rw [hdecl] at hown2
    rw [← e1]; exact Option.some.inj (C.2.2.2.1.symm.trans hown2)
  have h6 := u_fits hfc hkC hkind (Or.inr hlay) hi hd hn hfit
  refine W.putFinK C.1 C.2.1 C.2.2.2.1 (hts _ hlk) hi hst hcf hin2 (by rw [q2]; exact h6) q1 q3 (by rw [hsl]; exact k2_hasslot (q4 k hk)) rfl rfl hdg fun H' e1 e2 e3 => ?_
  rw [hsl] at e1 ⊢
  exact kk H' _ ⟨_, hc, t_OB.to (V := updV (vp_V fs) k v) ⟨_, e1, q2, q3, t_set q4 hap hk v⟩ (fun j _ => vp_updV_set hl v j)⟩ e2 e3 (hS0.put e2 e3 hA)
theorem j_putF (C : jC p s m args meth c cc nL Ts own D cy) (hJ : jH D cy sz b (.inr (ci, fs)) j (jA sz b) s H locs) {Cn : String} {T : u_T} {N index : Nat} (hin : ∀ w ∈ u_ws Cn T N, w ∈ Ts) (ty0 : Nat → FieldType) (hty : ∀ k, k < N → parseFieldDescriptor (T k).2.2.1 = some (ty0 k)) (hnm : ∀ a, a < N → ∀ b, b < N → a ≠ b → (T a).2.1 ≠ (T b).2.1) (hc : vwCl[ci]? = some (Cn, T, N)) (k : Nat) (hk : k < N) (hlk : Cond.fieldLink own index (T k).1 (T k).2.1 (T k).2.2.1 ∈ Ts) (hfin : (T k).2.2.2 = true) (hin2 : meth.name = "<init>") (hdecl : (T k).1 = own) {ty : FieldType} {v : Value} (hd : parseFieldDescriptor (T k).2.2.1 = some ty) (hn : narrow ty v = v) (hfit : fits ty v = true) (hl : k < fs.length) (hdg : decode cc pc = .ok (.putfield index, 3))
    (kk : ∀ (H1 : Heap) (locs1 : List Loc), jH D cy sz b (.inr (ci, fs.set k v)) j (jA sz b) s H1 locs1 → W p l e R s m args below meth c H1 locs1 cells slots Q (F0 m (pc + 3) ls rest)) : W p l e R s m args below meth c H locs cells slots Q (F0 m pc ls (v :: .ref (sz + b) :: rest)) := by
  obtain ⟨hz, hO, hB, hS0⟩ := hJ
  exact j_put0 C hO hS0 (by unfold jA; omega) hin ty0 hty hnm hc k hk hlk hfin hin2 hdecl hd hn hfit hl hdg (fun H1 locs1 h1 h2 h3 h4 => kk H1 locs1 ⟨by rw [h2]; exact hz, h1, hB.kept (fun k' a b' => h3 _ (by omega)), h4⟩)
/-- the end -/
theorem j_ret (C : jC p s m args meth c cc nL Ts own D cy) (hr : meth.sig.returnType = none) {n : Nat} (hJ : jH D cy sz b (.inr (ci, fs)) j (jA sz b) s H locs) (hn : n = j + 1) (hE : zE (ad sz) cy zs0 b = .inr (ci, fs)) (d : decode cc pc = .ok (.return_, 1)) : W p l e R s m args below meth c H locs cells slots (MQ below (va_Qv (S := Unit) (fun _ => True) (fun _ t => jPost D cy sz b n t) (jA sz b)) args s cells slots (jA sz b)) (F0 m pc ls []) := by
  obtain ⟨hz, hO, hB, hS⟩ := hJ
  refine W.vret C.1 C.2.1 hr (fun t ht hW => ⟨⟨(), rfl, trivial, by rw [ht]; omega, fun k a b' => ?_⟩, hS.F ht⟩) hS.2.2 d C.2.2.2.2.2.2
  rw [ht]
  by_cases q : k = b
  · subst q
    unfold jAt
    rw [hE]
    exact hO
  · exact hB k (by omega) (by omega)
theorem j_fcI (C : jC p s m args meth c cc nL Ts own D cy) : s.vm.findClass ("[" ++ FieldType.int.toString) = some (cy 1) := (C.2.2.2.2.2.1.1.2 1 _ rfl).2
theorem j_fcC (C : jC p s m args meth c cc nL Ts own D cy) : s.vm.findClass ("[" ++ FieldType.char.toString) = some (cy 0) := (C.2.2.2.2.2.1.1.2 0 _ rfl).2
theorem j_fcJ (C : jC p s m args meth c cc nL Ts own D cy) : s.vm.findClass ("[" ++ FieldType.long.toString) = some (cy 2) := (C.2.2.2.2.2.1.1.2 2 _ rfl).2
theorem j_fcZ (C : jC p s m args meth c cc nL Ts own D cy) : s.vm.findClass ("[" ++ FieldType.boolean.toString) = some (cy 3) := (C.2.2.2.2.2.1.1.2 3 _ rfl).2
theorem j_fcD (C : jC p s m args meth c cc nL Ts own D cy) : s.vm.findClass ("[" ++ FieldType.double.toString) = some (cy 5) := (C.2.2.2.2.2.1.1.2 5 _ rfl).2
/-- rows of references -/
theorem j_anew (C : jC p s m args meth c cc nL Ts own D cy) (hz : H.size = sz + (b + 1)) (hO : va_at D vwCl (sz + b, E) H) (hS : va_S A s.heap H locs) {index : Nat} (hclink : Cond.classLink own index RX3 ∈ Ts) {n : Int32} {N : Nat} (hn : ¬ n < 0) (hN : n.toNatClampNeg = N) (hbytes : N * 4 ≤ 536870912) (hcells : cells + 1 ≤ R.cells) (hslots : slots + N ≤ R.slots) (d : decode cc pc = .ok (.anewarray index, 3))
    (kk : ∀ H1 : Heap, H1.size = sz + (b + 1) + 1 → va_at D vwCl (sz + b, E) H1 → va_at D vwCl (sz + (b + 1), .inl (cy 4, N, .inr (.inr (.inr (.inr (fun _ => none)))))) H1 → va_S A s.heap H1 locs → W p l e R s m args below meth c H1 locs (cells + 1) (slots + N) Q (F0 m (pc + 3) ls (.ref (sz + (b + 1)) :: rest))) : W p l e R s m args below meth c H locs cells slots Q (F0 m pc ls (.int n :: rest)) := by
  subst hN
  refine W.anew C.1 C.2.1 C.2.2.2.1 (C.2.2.2.2.1 _ hclink) (va_AO.use C.2.2.2.2.2.1.2.2) rfl d rfl hn hbytes hcells hslots fun cA kA comp f1 f2 f3 f4 => ?_
  have ecA : cA = cy 4 := by
    obtain ⟨kA', comp', g1, g2, g3, g4⟩ := (C.2.2.2.2.2.1.1.2 4 _ rfl).2
    exact Option.some.inj (f1.symm.trans g4)
  subst ecA
  generalize hH1 : H.push ({ cls := cy 4, slots := Array.replicate n.toNatClampNeg .null, vm := .none } : Cell) = H1
  have z1 : H1.size = H.size + 1 := by rw [← hH1, Array.size_push]
  have e1 : H1[H.size]? = some (arrV (cy 4) n.toNatClampNeg (fun _ => .null)) := by rw [← hH1, Array.getElem?_push_size, ← arrV_new]
  have o1 : ∀ q : Nat, q < H.size → H1[q]? = H[q]? := fun q hq => by rw [← hH1, Array.getElem?_push, if_neg (Nat.ne_of_lt hq)]
  have := kk H1 (by omega) (hO.kept (o1 _ (by show sz + b < _; omega))) (by
    show H1[sz + (b + 1)]? = some (vp_cell _ _)
    rw [vp_cell_q, ← hz]
    exact e1) ⟨by have := hS.1; omega, fun x h1 h2 => (o1 x (by have := hS.1; omega)).trans (hS.2.1 x h1 h2), hS.2.2⟩
  rw [← hz] at this
  exact this
/-- a State into such a row -/
theorem j_aast (C : jC p s m args meth c cc nL Ts own D cy) {n v : Nat} {f : Nat → Option Nat} {vs : List Value} (ha : va_at D vwCl (sz + b, .inl (cy 4, n, .inr (.inr (.inr (.inr f))))) H) (hv : va_at D vwCl (v, .inr (2, vs)) H) (hS : va_S A s.heap H locs) (hA : A (sz + b)) {i : Int32} (hin : vp_in i n) (d : decode cc pc = .ok (.aastore, 1))
    (kk : ∀ (H1 : Heap) (locs1 : List Loc), va_at D vwCl (sz + b, .inl (cy 4, n, .inr (.inr (.inr (.inr (va_up f i.toNatClampNeg (some v))))))) H1 → H1.size = H.size → (∀ q, q ≠ sz + b → H1[q]? = H[q]?) → va_S A s.heap H1 locs1 → W p l e R s m args below meth c H1 locs1 cells slots Q (F0 m (pc + 1) ls rest)) : W p l e R s m args below meth c H locs cells slots Q (F0 m pc ls (.ref v :: .int i :: .ref (sz + b) :: rest)) := by
  have hK := C.2.2.2.2.2.1.1
  have hlt : i.toNatClampNeg < n := Nat.not_le.mp fun q => hin (Or.inr q)
  have h0 : ¬ i < 0 := fun q => hin (Or.inl q)
  obtain ⟨r', hr', cellV, g1, g2, g3, -⟩ := hv
  have hcls := (hK.1 2 (RX3, TX3, 14) rfl).2
  obtain ⟨kA, comp, k1, k2, k3, -⟩ := (hK.2 4 _ rfl).2
  have hcomp : comp = D.1 2 := Option.some.inj (k3.symm.trans hcls.1)
  subst hcomp
  obtain ⟨kC, hkC, -⟩ := hcls.2
  refine W.aast C.1 C.2.1 ha (fun q h => by cases h) (fun h => by cases h) k1 k2 rfl hkC ⟨h0, by show _ < (arrV _ _ _).slots.size; rw [arrV_size]; exact hlt⟩ g1 (fun q h => by rw [g3] at h; cases h) (by rw [g2]; exact hkC) (by rw [g2]; exact va_assign hcls) rfl rfl d fun H1 e z oq => kk H1 _ ?_ z oq (hS.put z oq hA)
  show H1[sz + b]? = some (vp_cell _ _)
  rw [e]
  rw [vp_cell_q, vp_cell_q, arrV_store]
  congr 2
  funext q
  by_cases hq : q = i.toNatClampNeg
  · subst hq
    simp [updV, va_up, va_rf]
  · simp [updV, va_up, hq]
end JR
section
variable {sz k N : Nat} {cy : Nat → ClassId}
theorem jE7 (h : zk k = 7) (hn : zn k = N) : zE (ad sz) cy zs0 k = .inl (cy 0, N, .inl (fun _ => zI 0)) := by rw [zE_7 h, hn]; rfl
theorem jE8 (h : zk k = 8) (hn : zn k = N) : zE (ad sz) cy zs0 k = .inl (cy 1, N, .inl (fun _ => zI 0)) := by rw [zE_8 h, hn]; rfl
theorem jE9 (h : zk k = 9) (hn : zn k = N) : zE (ad sz) cy zs0 k = .inl (cy 2, N, .inr (.inl (fun _ => zJ 0))) := by rw [zE_9 h, hn]; rfl
theorem jE10 (h : zk k = 10) (hn : zn k = N) : zE (ad sz) cy zs0 k = .inl (cy 3, N, .inl (fun _ => zI 0)) := by rw [zE_10 h, hn]; rfl
theorem jV7 (cA : ClassId) : vp_cell cA (N, .inl (fun _ => zI 0)) = arrV cA N (fun _ => defaultValue .char) := by rw [vp_cell_i]; rfl
theorem jV8 (cA : ClassId) : vp_cell cA (N, .inl (fun _ => zI 0)) = arrV cA N (fun _ => defaultValue .int) := by rw [vp_cell_i]; rfl
theorem jV9 (cA : ClassId) : vp_cell cA (N, .inr (.inl (fun _ => zJ 0))) = arrV cA N (fun _ => defaultValue .long) := by rw [vp_cell_l]; rfl
theorem jV10 (cA : ClassId) : vp_cell cA (N, .inl (fun _ => zI 0)) = arrV cA N (fun _ => defaultValue .boolean) := by rw [vp_cell_i]; rfl
theorem zI_nat {n : Nat} (h : n < 2147483648) : ¬ zI (n : Int) < 0 ∧ (zI (n : Int)).toNatClampNeg = n := by
  have hr : zR (n : Int) := by unfold zR; omega
  refine ⟨fun q => ?_, by rw [zI_cl hr, Int.toNat_natCast]⟩
  have q : zI (n : Int) < zI 0 := q
  rw [zI_lt hr zR_0] at q
  omega
end
