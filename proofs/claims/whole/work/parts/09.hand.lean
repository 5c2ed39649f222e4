section ZH
variable {p : Program} {l : Launch} {e : Env} {R : Room} {s : State} {m : MethodId} {args : Array Value} {below : List Frame} {meth : Method} {c : Code} {cc : ByteArray} {nL : Nat} {Ts : List Cond} {own : String} {a : Nat → Nat} {cy : Nat → ClassId} {D : va_G} {tV : Nat} {sa : Nat → Nat} {Q : State → Prop} {cells slots : Nat} {σ : Sto} {pc : Nat} {L : List (Nat × Value)} {st : List Value} {Post : Option Value → Sto → Prop} {X : Nat → Sto → Prop} {mc ms : Nat} {hh : List (Nat × Nat × Nat × Nat)}
theorem zMXH_of {y : MethodName} {ws ws' : List Cond} {rm : Room} {maxL : Nat} {ret : Option FieldType} {av : List Value} {L0 : List (Nat × Value)} (hy : plainName y.cls = true) (hw : ws = Cond.codeWith y cc maxL ret hh :: ws') (hlen : (lg_sl av).length ≤ maxL) (hL0 : lv_args 0 av = L0)
    (body : ∀ (p : Program) (e : Env) (s : State) (m : MethodId) (args : Array Value) (below : List Frame) (meth : Method) (c : Code), zC p l s m args meth c cc maxL ws y.cls a cy D tV sa → meth.sig.returnType = ret → c.exceptionTable.toList = tableOf hh → zX p l e rm s m args below meth c maxL a cy D (vx_MQ below (fun _ => zQo a cy D s.heap.size Post) (zXC a cy D s.heap.size X) args s mc ms (zA a s.heap.size)) 0 0 σ 0 L0 []) : zMX l y ws rm a cy D tV sa av σ Post X mc ms := by
  intro sz
  refine vx_ofWH (cc := cc) (maxL := maxL) (ret := ret) (hh := hh) hy hw ?_
  intro p e s m args below meth c s₁ B hml hv
  obtain ⟨rfl, h1, h2, h3, h4, h5, h6, h7, h8, h9⟩ := hv
  subst h1
  have hl := lv_entry av (n := maxL) hlen
  rw [hL0] at hl
  rw [lg_entry_eq]
  have hts := atoms_spec (ws := ws) B.pre
  have ht : c.exceptionTable.toList = tableOf hh := vx_table (x := y) (bytes := cc) (maxL' := maxL) (ret' := ret) B (hts _ (by rw [hw]; exact List.mem_cons_self))
  exact body p e s m _ below meth c ⟨B.exec, B.bytes, hml, findClass_of_methodNamed B.named, hts, h3, h4, B.notSynchronized, h6, h7, h8, h9⟩ B.returns ht s.heap [] _ h5 h2 va_S.rf hl
/-- caught by a row of the table -/
theorem zr_catch (C : zC p l s m args meth c cc nL Ts own a cy D tV sa) (htab : c.exceptionTable.toList = tableOf hh) (pre : List ExceptionTableEntry) (x : ExceptionTableEntry) (suf : List ExceptionTableEntry) (hsplit : tableOf hh = pre ++ x :: suf) (i : Nat) (hi : i < 4)
    (hpass : ∀ z ∈ pre, z.catchType ≠ 0 ∧ ∃ j : Nat, j < 4 ∧ i ≠ j ∧ Cond.classLink own z.catchType (zEx j) ∈ Ts) (hx : covers x pc = true) (h0 : x.catchType ≠ 0) (hlink : Cond.classLink own x.catchType (zEx i) ∈ Ts)
    {H1 : Heap} {locs1 : List Loc} {ls : Array Slot} {ce : Cell} {q9 : Addr} {k n : Nat} (hcell : H1[q9]? = some ce) (hv : ce.vm = .none) (hcl : s.vm.findClass (zEx i) = some ce.cls)
    (kk : W p l e R s m args below meth c H1 locs1 k n Q (F0 m x.handlerPc ls [.ref q9])) : vx_W p l e R s m args below meth c H1 locs1 k n Q (F0 m pc ls st) q9 :=
  vx_catch C.2.2.2.1 pre x suf (htab.trans hsplit) (fun z hz => Or.inr (by
    obtain ⟨h1, j, hj, hij, hl⟩ := hpass z hz
    exact ⟨h1, zEx j, C.2.2.2.2.1 _ hl, C.2.2.2.2.2.2.2.2.2.2.2.2.2 i hi j hj hij⟩)) hx h0 (C.2.2.2.2.1 _ hlink) (va_Nw.use rfl (C.2.2.2.2.2.2.2.2.2.2.2.2.1 i hi)) hcell hv hcl kk
theorem zrunSX {Post1 : Option Value → Sto → Prop} {X1 : Nat → Sto → Prop} {mc1 ms1 : Nat} {st0 As : List Value} {index n maxL : Nat} {y : MethodName} {bytes : ByteArray} {ret : Option FieldType} {ws' : List Cond} {rm : Room} (C : zC p l s m args meth c cc nL Ts own a cy D tV sa) (hM : zMX l y ws' rm a cy D tV sa As σ Post1 X1 mc1 ms1) (cw : vx_CSW R s args own index y bytes maxL ret hh ws' rm mc1 ms1 n) (hn : As.length = n) (hst : st0 = As.reverse ++ st) (hcat : (st.map fun v => v.category).sum ≤ 8) (d : decode cc pc = .ok (.invokestatic index, 3)) (hR : cells + mc1 ≤ R.cells ∧ slots + ms1 ≤ R.slots) : zRunX p l e R s m args below meth c nL a cy D cells slots σ pc L st0 st Post1 X1 mc1 ms1 := fun H locs ls hO hP hS hL =>
  vx_runSX (hh := hh) (As := As) ⟨C.1, C.2.1, C.2.2.1, C.2.2.2.1, C.2.2.2.2.1⟩ (hM H.size) cw ⟨zPre_blind, fun U hU hW => ⟨rfl, zPre_call C hO hP hS hU hW⟩⟩ rfl hn hL.1 hst (by show 2 * 0 + _ ≤ 8; omega) d hR
end ZH
