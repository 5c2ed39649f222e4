/-- a method's start: the world of all cells over the store σ, the tables, the statics -/
def zPre (a : Nat → Nat) (cy : Nat → ClassId) (D : va_G) (tV : Nat) (sa : Nat → Nat) (σ : Sto) (sz : Nat) (U : State) : Prop :=
  U.heap.size = sz ∧ va_P D vwCl (zW a cy σ) U.heap ∧ va_K D vwCl (zty cy) U ∧ zInj a ∧ zO σ ∧ zNw U ∧ zVo tV (zA a sz) U U.heap ∧ zTh (zA a sz) U U.heap ∧ zSt sa U
/-- its end -/
def zQo (a : Nat → Nat) (cy : Nat → ClassId) (D : va_G) (sz : Nat) (Post : Option Value → Sto → Prop) : State → Outcome → State → Prop := fun st oc t => (∃ (v : Option Value) (τ : Sto), oc = .returned v ∧ Post v τ ∧ zO τ ∧ va_P D vwCl (zW a cy τ) t.heap) ∧ va_F (zA a sz) st t
/-- a method that returns: from σ, with the arguments av, to an answer and a store with Post -/
def zM (l : Launch) (y : MethodName) (ws : List Cond) (rm : Room) (a : Nat → Nat) (cy : Nat → ClassId) (D : va_G) (tV : Nat) (sa : Nat → Nat) (av : List Value) (σ : Sto) (Post : Option Value → Sto → Prop) : Prop :=
  ∀ sz : Nat, Met l y ws rm (va_Pc av (zPre a cy D tV sa σ sz)) (fun _ => zQo a cy D sz Post) 0 0 (zA a sz)
def zPI (P : Int → Sto → Prop) : Option Value → Sto → Prop := fun v τ => ∃ x : Int, v = some (.int (zI x)) ∧ P x τ
def zPJ (P : Int → Sto → Prop) : Option Value → Sto → Prop := fun v τ => ∃ x : Int, v = some (.long (zJ x)) ∧ P x τ
def zPD (P : Int → Sto → Prop) : Option Value → Sto → Prop := fun v τ => ∃ x : Int, v = some (.double (zD x)) ∧ P x τ
def zPV (P : Sto → Prop) : Option Value → Sto → Prop := fun v τ => v = none ∧ P τ
theorem zA_mono {a : Nat → Nat} {x y : Nat} (h : x ≤ y) : ∀ q, zA a y q → zA a x q := fun q hq => hq.elim Or.inl (fun z => Or.inr (Nat.le_trans h z))
theorem zVo.go {tV : Nat} {A B : Nat → Prop} {s U : State} {H H1 : Heap} (hW : s.WarmedH U.vm) (hq : ∀ a : Nat, a < H.size → ¬ A a → H1[a]? = H[a]?) (hAB : ∀ q, B q → A q) (h : zVo tV A s H) : zVo tV B U H1 := ⟨va_Z.moved hW.alike ((h.1.kept hq).narrow hAB), va_T.moved hW.alike ((h.2.kept hq).narrow hAB)⟩
theorem zTh.go {A B : Nat → Prop} {s U : State} {H H1 : Heap} (hW : s.WarmedH U.vm) (hq : ∀ a : Nat, a < H.size → ¬ A a → H1[a]? = H[a]?) (hAB : ∀ q, B q → A q) (h : zTh A s H) : zTh B U H1 := ⟨vx_Zq.moved hW.alike ((h.1.kept hq).narrow hAB), vx_Zq.moved hW.alike ((h.2.kept hq).narrow hAB)⟩
theorem zPre.warm {a : Nat → Nat} {cy : Nat → ClassId} {D : va_G} {tV : Nat} {sa : Nat → Nat} {σ : Sto} {sz : Nat} {U V : State} (hW : U.WarmedH V.vm) (hh : V.heap = U.heap) (h : zPre a cy D tV sa σ sz U) : zPre a cy D tV sa σ sz V := by
  obtain ⟨h1, h2, h3, h4, h5, h6, h7, h8, h9⟩ := h
  exact ⟨by rw [hh]; exact h1, by rw [hh]; exact h2, va_K.moved hW.alike h3, h4, h5, h6.warm hW, zVo.go hW (fun _ _ _ => by rw [hh]) (fun _ z => z) h7, zTh.go hW (fun _ _ _ => by rw [hh]) (fun _ z => z) h8, h9.warm hW⟩
theorem zPre_blind {a : Nat → Nat} {cy : Nat → ClassId} {D : va_G} {tV : Nat} {sa : Nat → Nat} {σ : Sto} {sz : Nat} {av : List Value} : FrameBlind (va_Pc av (zPre a cy D tV sa σ sz)) := fun _ar U _g _mk h => ⟨h.1, zPre.warm (State.WarmedH.refl U) rfl h.2⟩
section ZK
variable {p : Program} {l : Launch} {e : Env} {R : Room} {s : State} {m : MethodId} {args : Array Value} {below : List Frame} {meth : Method} {c : Code} {cc : ByteArray} {nL : Nat} {Ts : List Cond} {own : String} {a : Nat → Nat} {cy : Nat → ClassId} {D : va_G} {tV : Nat} {sa : Nat → Nat} {Q : State → Prop} {cells slots : Nat} {σ : Sto} {pc : Nat} {L : List (Nat × Value)} {st : List Value}
theorem zPre_call (C : zC p l s m args meth c cc nL Ts own a cy D tV sa) {H : Heap} {locs : List Loc} (hO : zO σ) (hP : va_P D vwCl (zW a cy σ) H) (hS : va_S (zA a s.heap.size) s.heap H locs) {U : State} (hU : U.heap = H) (hW : s.WarmedH U.vm) : zPre a cy D tV sa σ H.size U :=
  ⟨by rw [hU], by rw [hU]; exact hP, va_K.moved hW.alike C.2.2.2.2.2.1, C.2.2.2.2.2.2.1, hO, C.2.2.2.2.2.2.2.2.1.warm hW, zVo.go hW (fun q h1 h2 => by rw [hU]; exact hS.2.1 q h1 h2) (zA_mono hS.1) C.2.2.2.2.2.2.2.2.2.1, zTh.go hW (fun q h1 h2 => by rw [hU]; exact hS.2.1 q h1 h2) (zA_mono hS.1) C.2.2.2.2.2.2.2.2.2.2.1, C.2.2.2.2.2.2.2.2.2.2.2.warm hW⟩
/-- a method out of the walk of its body -/
theorem zM_of {y : MethodName} {ws ws' : List Cond} {rm : Room} {maxL : Nat} {ret : Option FieldType} {av : List Value} {L0 : List (Nat × Value)} {Post : Option Value → Sto → Prop} (hy : plainName y.cls = true) (hw : ws = Cond.code y cc maxL ret :: ws') (hlen : (lg_sl av).length ≤ maxL) (hL0 : lv_args 0 av = L0)
    (body : ∀ (p : Program) (e : Env) (s : State) (m : MethodId) (args : Array Value) (below : List Frame) (meth : Method) (c : Code), zC p l s m args meth c cc maxL ws y.cls a cy D tV sa → meth.sig.returnType = ret → zX p l e rm s m args below meth c maxL a cy D (MQ below (fun _ => zQo a cy D s.heap.size Post) args s 0 0 (zA a s.heap.size)) 0 0 σ 0 L0 []) : zM l y ws rm a cy D tV sa av σ Post := by
  intro sz
  refine Met.ofW (cc := cc) (maxL := maxL) (ret := ret) hy hw ?_
  intro p e s m args below meth c s₁ B hml hv
  obtain ⟨rfl, h1, h2, h3, h4, h5, h6, h7, h8, h9⟩ := hv
  subst h1
  have hl := lv_entry av (n := maxL) hlen
  rw [hL0] at hl
  rw [lg_entry_eq]
  exact body p e s m _ below meth c ⟨B.exec, B.bytes, hml, findClass_of_methodNamed B.named, atoms_spec (ws := ws) B.pre, h3, h4, B.notSynchronized, h6, h7, h8, h9⟩ B.returns s.heap [] _ h5 h2 va_S.rf hl
theorem zr_iret {Post : Option Value → Sto → Prop} {x : Int} (C : zC p l s m args meth c cc nL Ts own a cy D tV sa) (hr : meth.sig.returnType = some .int) (d : decode cc pc = .ok (.ireturn, 1)) (hp : Post (some (.int (zI x))) σ) : zX p l e R s m args below meth c nL a cy D (MQ below (fun _ => zQo a cy D s.heap.size Post) args s cells slots (zA a s.heap.size)) cells slots (σ) (pc) (L) ([.int (zI x)]) := fun H locs ls hO hP hS hL => W.iret C.1 C.2.1 hr (fun t ht hW => ⟨⟨_, σ, rfl, hp, hO, by rw [ht]; exact hP⟩, hS.F ht⟩) hS.2.2 d C.2.2.2.2.2.2.2.1
theorem zr_lret {Post : Option Value → Sto → Prop} {x : Int} (C : zC p l s m args meth c cc nL Ts own a cy D tV sa) (hr : meth.sig.returnType = some .long) (d : decode cc pc = .ok (.lreturn, 1)) (hp : Post (some (.long (zJ x))) σ) : zX p l e R s m args below meth c nL a cy D (MQ below (fun _ => zQo a cy D s.heap.size Post) args s cells slots (zA a s.heap.size)) cells slots (σ) (pc) (L) ([.long (zJ x)]) := fun H locs ls hO hP hS hL => W.lret C.1 C.2.1 hr (fun t ht hW => ⟨⟨_, σ, rfl, hp, hO, by rw [ht]; exact hP⟩, hS.F ht⟩) hS.2.2 d C.2.2.2.2.2.2.2.1
theorem zr_dret {Post : Option Value → Sto → Prop} {x : Int} (C : zC p l s m args meth c cc nL Ts own a cy D tV sa) (hr : meth.sig.returnType = some .double) (d : decode cc pc = .ok (.dreturn, 1)) (hp : Post (some (.double (zD x))) σ) : zX p l e R s m args below meth c nL a cy D (MQ below (fun _ => zQo a cy D s.heap.size Post) args s cells slots (zA a s.heap.size)) cells slots (σ) (pc) (L) ([.double (zD x)]) := fun H locs ls hO hP hS hL => W.dret C.1 C.2.1 hr (fun t ht hW => ⟨⟨_, σ, rfl, hp, hO, by rw [ht]; exact hP⟩, hS.F ht⟩) hS.2.2 d C.2.2.2.2.2.2.2.1
theorem zr_zret {Post : Option Value → Sto → Prop} {x : Int} {ty : FieldType} (C : zC p l s m args meth c cc nL Ts own a cy D tV sa) (hr : meth.sig.returnType = some ty) (hn : narrow ty (.int (zI x)) = .int (zI x)) (d : decode cc pc = .ok (.ireturn, 1)) (hp : Post (some (.int (zI x))) σ) : zX p l e R s m args below meth c nL a cy D (MQ below (fun _ => zQo a cy D s.heap.size Post) args s cells slots (zA a s.heap.size)) cells slots (σ) (pc) (L) ([.int (zI x)]) := fun H locs ls hO hP hS hL => W.zret C.1 C.2.1 hr hn (fun t ht hW => ⟨⟨_, σ, rfl, hp, hO, by rw [ht]; exact hP⟩, hS.F ht⟩) hS.2.2 d C.2.2.2.2.2.2.2.1
theorem zr_vret {Post : Option Value → Sto → Prop} (C : zC p l s m args meth c cc nL Ts own a cy D tV sa) (hr : meth.sig.returnType = none) (d : decode cc pc = .ok (.return_, 1)) (hp : Post none σ) : zX p l e R s m args below meth c nL a cy D (MQ below (fun _ => zQo a cy D s.heap.size Post) args s cells slots (zA a s.heap.size)) cells slots (σ) (pc) (L) ([]) := fun H locs ls hO hP hS hL => W.vret C.1 C.2.1 hr (fun t ht hW => ⟨⟨_, σ, rfl, hp, hO, by rw [ht]; exact hP⟩, hS.F ht⟩) hS.2.2 d C.2.2.2.2.2.2.2.1
theorem znr_z {x : Int} (h : x = 0 ∨ x = 1) : narrow .boolean (.int (zI x)) = .int (zI x) := by rcases h with rfl | rfl <;> decide
theorem znr_c {x : Int} (h0 : 0 ≤ x) (h1 : x ≤ 65535) : narrow .char (.int (zI x)) = .int (zI x) := by
  have e : zI x = nI x.toNat := by
    unfold zI nI
    rw [← Int32.ofInt_eq_ofNat, Int.toNat_of_nonneg h0]
  rw [e]
  exact (pk_charN (by omega)).1
theorem zft_z {x : Int} (h : x = 0 ∨ x = 1) : fits .boolean (.int (zI x)) = true := by rcases h with rfl | rfl <;> decide
/-- a call's run -/
def zRun (p : Program) (l : Launch) (e : Env) (R : Room) (s : State) (m : MethodId) (args : Array Value) (below : List Frame) (meth : Method) (c : Code) (nL : Nat) (a : Nat → Nat) (cy : Nat → ClassId) (D : va_G) (cells slots : Nat) (σ : Sto) (pc : Nat) (L : List (Nat × Value)) (st0 st : List Value) (Post : Option Value → Sto → Prop) : Prop :=
  ∀ (H : Heap) (locs : List Loc) (ls : Array Slot), zO σ → va_P D vwCl (zW a cy σ) H → va_S (zA a s.heap.size) s.heap H locs → lv_has ls nL L → va_Run p l e R s m args below meth c H locs cells slots 0 0 (F0 m pc ls st0) st (zQo a cy D H.size Post) (zA a H.size)
theorem zr_call {Post : Option Value → Sto → Prop} {st0 : List Value} {q : Nat} (hr : zRun p l e R s m args below meth c nL a cy D cells slots σ pc L st0 st Post) (hq : pc + 3 = q) (h : ∀ (v : Option Value) (τ : Sto), Post v τ → zX p l e R s m args below meth c nL a cy D Q cells slots (τ) (q) (L) (v.toList ++ st)) : zX p l e R s m args below meth c nL a cy D Q cells slots (σ) (pc) (L) (st0) := by
  subst hq
  intro H locs ls hO hP hS hL T hT X
  obtain ⟨v, st₀, t, T', Lc, h0, X', hLc, e1, e2, ⟨⟨v', τ, hv, hp, hO', hP'⟩, hz, hk⟩, hg⟩ := hr H locs ls hO hP hS hL T hT X
  cases hv
  rw [h0] at hz hk
  have hS' : va_S (zA a s.heap.size) s.heap T'.heap (locs ++ Lc) := ⟨Nat.le_trans hS.1 (by rw [e1]; exact hz), fun q h1 h2 => by rw [e1, hk q (Nat.lt_of_lt_of_le h1 hS.1) (fun z => h2 (zA_mono hS.1 q z))]; exact hS.2.1 q h1 h2, fun q hq => by
      rcases List.mem_append.mp hq with h | h
      · exact hS.2.2 q h
      · exact zA_mono hS.1 _ (hLc q h)⟩
  obtain ⟨t2, a1, b1⟩ := h v τ hp T'.heap (locs ++ Lc) ls hO' (by rw [e1]; exact hP') hS' hL T' rfl X'
  exact ⟨t2, hg t2 a1, b1⟩
theorem zr_calli {P : Int → Sto → Prop} {st0 : List Value} {q : Nat} (hr : zRun p l e R s m args below meth c nL a cy D cells slots σ pc L st0 st (zPI P)) (hq : pc + 3 = q) (h : ∀ (x : Int) (τ : Sto), P x τ → zX p l e R s m args below meth c nL a cy D Q cells slots (τ) (q) (L) (.int (zI x) :: st)) : zX p l e R s m args below meth c nL a cy D Q cells slots (σ) (pc) (L) (st0) := zr_call hr hq (fun v τ hv => by obtain ⟨x, rfl, hx⟩ := hv; exact h x τ hx)
theorem zr_callj {P : Int → Sto → Prop} {st0 : List Value} {q : Nat} (hr : zRun p l e R s m args below meth c nL a cy D cells slots σ pc L st0 st (zPJ P)) (hq : pc + 3 = q) (h : ∀ (x : Int) (τ : Sto), P x τ → zX p l e R s m args below meth c nL a cy D Q cells slots (τ) (q) (L) (.long (zJ x) :: st)) : zX p l e R s m args below meth c nL a cy D Q cells slots (σ) (pc) (L) (st0) := zr_call hr hq (fun v τ hv => by obtain ⟨x, rfl, hx⟩ := hv; exact h x τ hx)
theorem zr_calld {P : Int → Sto → Prop} {st0 : List Value} {q : Nat} (hr : zRun p l e R s m args below meth c nL a cy D cells slots σ pc L st0 st (zPD P)) (hq : pc + 3 = q) (h : ∀ (x : Int) (τ : Sto), P x τ → zX p l e R s m args below meth c nL a cy D Q cells slots (τ) (q) (L) (.double (zD x) :: st)) : zX p l e R s m args below meth c nL a cy D Q cells slots (σ) (pc) (L) (st0) := zr_call hr hq (fun v τ hv => by obtain ⟨x, rfl, hx⟩ := hv; exact h x τ hx)
theorem zr_callv {P : Sto → Prop} {st0 : List Value} {q : Nat} (hr : zRun p l e R s m args below meth c nL a cy D cells slots σ pc L st0 st (zPV P)) (hq : pc + 3 = q) (h : ∀ (τ : Sto), P τ → zX p l e R s m args below meth c nL a cy D Q cells slots (τ) (q) (L) (st)) : zX p l e R s m args below meth c nL a cy D Q cells slots (σ) (pc) (L) (st0) := zr_call hr hq (fun v τ hv => by obtain ⟨rfl, hx⟩ := hv; exact h τ hx)
theorem zrunV {Post : Option Value → Sto → Prop} {st0 As : List Value} {k ci index n N maxL : Nat} {Cn : String} {T : u_T} {fs : List Value} {y : MethodName} {bytes : ByteArray} {ret : Option FieldType} {ws' : List Cond} {rm : Room} (C : zC p l s m args meth c cc nL Ts own a cy D tV sa) (hM : zM l y ws' rm a cy D tV sa (.ref (a k) :: As) σ Post) (cw : CallW R s args own Cn index y bytes maxL ret ws' rm 0 0 n) (hE : zE a cy σ k = .inr (ci, fs)) (hk : k < 299) (hc : vwCl[ci]? = some (Cn, T, N)) (hn : As.length = n) (hst : st0 = As.reverse ++ .ref (a k) :: st) (hcat : (st.map fun v => v.category).sum ≤ 8) (d : decode cc pc = .ok (.invokevirtual index, 3)) (hR : cells ≤ R.cells ∧ slots ≤ R.slots) : zRun p l e R s m args below meth c nL a cy D cells slots σ pc L st0 st Post := fun H locs ls hO hP hS hL =>
  va_runV (C := Cn) (b := a k) (As := As) ⟨C.1, C.2.1, C.2.2.1, C.2.2.2.1, C.2.2.2.2.1⟩ (hM H.size) cw ⟨zPre_blind, va_recv C.2.2.2.2.2.1 hP (ci := ci) (q0 := k) hc (by rw [zW_at hk, hE]), fun U hU hW => ⟨rfl, zPre_call C hO hP hS hU hW⟩⟩ rfl hn hL.1 hst (by show 2 * 0 + _ ≤ 8; omega) d hR
theorem zrunS {Post : Option Value → Sto → Prop} {st0 As : List Value} {index n maxL : Nat} {y : MethodName} {bytes : ByteArray} {ret : Option FieldType} {ws' : List Cond} {rm : Room} (C : zC p l s m args meth c cc nL Ts own a cy D tV sa) (hM : zM l y ws' rm a cy D tV sa As σ Post) (cw : CallB R s args own index y bytes maxL ret ws' rm 0 0 n ∧ (Cond.static y).before args s = true) (hn : As.length = n) (hst : st0 = As.reverse ++ st) (hcat : (st.map fun v => v.category).sum ≤ 8) (d : decode cc pc = .ok (.invokestatic index, 3)) (hR : cells ≤ R.cells ∧ slots ≤ R.slots) : zRun p l e R s m args below meth c nL a cy D cells slots σ pc L st0 st Post := fun H locs ls hO hP hS hL =>
  va_runS (As := As) ⟨C.1, C.2.1, C.2.2.1, C.2.2.2.1, C.2.2.2.2.1⟩ (hM H.size) cw ⟨zPre_blind, fun U hU hW => ⟨rfl, zPre_call C hO hP hS hU hW⟩⟩ rfl hn hL.1 hst (by show 2 * 0 + _ ≤ 8; omega) d hR
theorem zrunSN {Post : Option Value → Sto → Prop} {st0 As : List Value} {index n maxL : Nat} {y : MethodName} {host : String} {bytes : ByteArray} {ret : Option FieldType} {ws' : List Cond} {rm : Room} (C : zC p l s m args meth c cc nL Ts own a cy D tV sa) (hM : zM l y ws' rm a cy D tV sa As σ Post) (cw : va_CN R s args own index y host bytes maxL ret ws' rm 0 0 n ∧ (Cond.static y).before args s = true ∧ True) (hn : As.length = n) (hst : st0 = As.reverse ++ st) (hcat : (st.map fun v => v.category).sum ≤ 8) (d : decode cc pc = .ok (.invokestatic index, 3)) (hR : cells ≤ R.cells ∧ slots ≤ R.slots) : zRun p l e R s m args below meth c nL a cy D cells slots σ pc L st0 st Post := fun H locs ls hO hP hS hL =>
  va_runSN (As := As) ⟨C.1, C.2.1, C.2.2.1, C.2.2.2.1, C.2.2.2.2.1⟩ (hM H.size) cw ⟨zPre_blind, fun U hU hW => ⟨rfl, zPre_call C hO hP hS hU hW⟩⟩ rfl hn hL.1 hst (by show 2 * 0 + _ ≤ 8; omega) d hR
theorem zr_mmax {x y : Int} {index q : Nat} (C : zC p l s m args meth c cc nL Ts own a cy D tV sa) (hm : Cond.methodLink own index Lib.Math.max.name ∈ Ts ∧ Cond.static Lib.Math.max.name ∈ Ts ∧ Cond.initialized "java/lang/Math" ∈ Ts ∧ Cond.code Lib.Math.max.name Lib.Math.max.code 2 (some .int) ∈ Ts) (hx : zR x) (hy : zR y) (hR : 1 ≤ R.frames ∧ (st.map fun v => v.category).sum + 13 ≤ R.locals ∧ cells ≤ R.cells ∧ slots ≤ R.slots) (d : decode cc pc = .ok (.invokestatic index, 3)) (hq : pc + 3 = q) (h : zX p l e R s m args below meth c nL a cy D Q cells slots (σ) (q) (L) (.int (zI (if x < y then y else x)) :: st)) : zX p l e R s m args below meth c nL a cy D Q cells slots (σ) (pc) (L) (.int (zI y) :: .int (zI x) :: st) := fun H locs ls hO hP hS hL => by
  subst hq
  refine va_mmax C.1 C.2.1 (C.2.2.1.trans hL.1.symm) C.2.2.2.1 (C.2.2.2.2.1 _ hm.1) (C.2.2.2.2.1 _ hm.2.1) (C.2.2.2.2.1 _ hm.2.2.1) (C.2.2.2.2.1 _ hm.2.2.2) hR.1 hR.2.1 hR.2.2.1 hR.2.2.2 d ?_
  have h := h H locs ls hO hP hS hL
  have e : (if (zI x) < (zI y) then (zI y) else (zI x) : Int32) = zI (if x < y then y else x) := by
    split
    · next z => rw [if_pos ((zI_lt hx hy).mp z)]
    · next z => rw [if_neg (fun w => z ((zI_lt hx hy).mpr w))]
  first | (rw [e]; exact h) | (rw [← e] at h; exact h)
theorem zr_mmin {x y : Int} {index q : Nat} (C : zC p l s m args meth c cc nL Ts own a cy D tV sa) (hm : Cond.methodLink own index Lib.Math.min.name ∈ Ts ∧ Cond.static Lib.Math.min.name ∈ Ts ∧ Cond.initialized "java/lang/Math" ∈ Ts ∧ Cond.code Lib.Math.min.name Lib.Math.min.code 2 (some .int) ∈ Ts) (hx : zR x) (hy : zR y) (hR : 1 ≤ R.frames ∧ (st.map fun v => v.category).sum + 13 ≤ R.locals ∧ cells ≤ R.cells ∧ slots ≤ R.slots) (d : decode cc pc = .ok (.invokestatic index, 3)) (hq : pc + 3 = q) (h : zX p l e R s m args below meth c nL a cy D Q cells slots (σ) (q) (L) (.int (zI (if y < x then y else x)) :: st)) : zX p l e R s m args below meth c nL a cy D Q cells slots (σ) (pc) (L) (.int (zI y) :: .int (zI x) :: st) := fun H locs ls hO hP hS hL => by
  subst hq
  refine va_mmin C.1 C.2.1 (C.2.2.1.trans hL.1.symm) C.2.2.2.1 (C.2.2.2.2.1 _ hm.1) (C.2.2.2.2.1 _ hm.2.1) (C.2.2.2.2.1 _ hm.2.2.1) (C.2.2.2.2.1 _ hm.2.2.2) hR.1 hR.2.1 hR.2.2.1 hR.2.2.2 d ?_
  have h := h H locs ls hO hP hS hL
  have e : (if (zI y) < (zI x) then (zI y) else (zI x) : Int32) = zI (if y < x then y else x) := by
    split
    · next z => rw [if_pos ((zI_lt hy hx).mp z)]
    · next z => rw [if_neg (fun w => z ((zI_lt hy hx).mpr w))]
  first | (rw [e]; exact h) | (rw [← e] at h; exact h)
end ZK
