/-! InflectionGuesserModel.proposes(I)V -/
set_option maxRecDepth 20000 in
theorem ggX7_proposes_X7_areSame : GoodIn wsX7_proposes wsX7_areSame := goodIn_r _ [32] (by decide +kernel) (by decide +kernel)
set_option maxRecDepth 20000 in
theorem gX7_proposes_X7_areSame : GoodIn wsX7_proposes (va_wsS RX7 85 yX7_areSame wsX7_areSame) := goodIn_app (goodIn_of _ (by decide +kernel)) ggX7_proposes_X7_areSame
set_option maxRecDepth 20000 in
theorem ggX7_proposes_X7_attested : GoodIn wsX7_proposes wsX7_attested := goodIn_r _ [64, 17, 65, 66, 13, 67, 30, 31, 32, 75, 76, 77, 78, 79, 80, 81, 82, 83, 84, 85, 86, 87, 88, 89, 90, 91, 92, 93] (by decide +kernel) (by decide +kernel)
set_option maxRecDepth 20000 in
theorem gX7_proposes_X7_attested : GoodIn wsX7_proposes (wsV RX7 153 RX7 yX7_attested wsX7_attested) := goodIn_app (goodIn_of _ (by decide +kernel)) ggX7_proposes_X7_attested
set_option maxRecDepth 20000 in
theorem ggX7_proposes_X7_copy : GoodIn wsX7_proposes wsX7_copy := goodIn_r _ [51] (by decide +kernel) (by decide +kernel)
set_option maxRecDepth 20000 in
theorem gX7_proposes_X7_copy : GoodIn wsX7_proposes (va_wsS RX7 131 yX7_copy wsX7_copy) := goodIn_app (goodIn_of _ (by decide +kernel)) ggX7_proposes_X7_copy
set_option maxRecDepth 20000 in
theorem ggX7_proposes_X7_findForms : GoodIn wsX7_proposes wsX7_findForms := goodIn_r _ [36, 5, 37, 6, 38, 39, 40, 13, 41, 17, 21, 22, 23, 42, 43, 44, 45, 46, 47, 48, 49, 50, 51, 27, 28, 29, 52, 53, 54, 55, 56, 57, 24, 25, 26, 58, 59, 60, 30, 31, 32, 75, 76, 77, 78, 79, 80, 81, 82, 83, 84, 85, 86, 87, 88, 89, 90, 91, 92, 93] (by decide +kernel) (by decide +kernel)
set_option maxRecDepth 20000 in
theorem gX7_proposes_X7_findForms : GoodIn wsX7_proposes (wsV RX7 178 RX7 yX7_findForms wsX7_findForms) := goodIn_app (goodIn_of _ (by decide +kernel)) ggX7_proposes_X7_findForms
set_option maxRecDepth 20000 in
theorem ggX7_proposes_X7_isAhead : GoodIn wsX7_proposes wsX7_isAhead := goodIn_r _ [71, 7, 8, 4, 3, 72, 73, 13, 74, 75, 76, 77, 78, 79, 80, 81, 82, 83, 84, 85, 86, 87, 88, 89, 90, 91, 92, 93] (by decide +kernel) (by decide +kernel)
set_option maxRecDepth 20000 in
theorem gX7_proposes_X7_isAhead : GoodIn wsX7_proposes (wsV RX7 182 RX7 yX7_isAhead wsX7_isAhead) := goodIn_app (goodIn_of _ (by decide +kernel)) ggX7_proposes_X7_isAhead
set_option maxRecDepth 20000 in
theorem ggX7_proposes_X7_isStem : GoodIn wsX7_proposes wsX7_isStem := goodIn_r _ [14, 15, 16, 17, 18, 19, 13, 20, 21, 22, 23, 24, 25, 26, 27, 28, 29, 75, 76, 77, 78, 79, 80, 81, 82, 83, 84, 85, 86, 87, 88, 89, 90, 91, 92, 93] (by decide +kernel) (by decide +kernel)
set_option maxRecDepth 20000 in
theorem gX7_proposes_X7_isStem : GoodIn wsX7_proposes (wsV RX7 138 RX7 yX7_isStem wsX7_isStem) := goodIn_app (goodIn_of _ (by decide +kernel)) ggX7_proposes_X7_isStem
theorem dX7_proposes_0 : decode cX7_proposes 0 = .ok (.aload_n 0, 1) := by decide +kernel
theorem dX7_proposes_1 : decode cX7_proposes 1 = .ok (.iload_n 1, 1) := by decide +kernel
theorem dX7_proposes_2 : decode cX7_proposes 2 = .ok (.aload_n 0, 1) := by decide +kernel
theorem dX7_proposes_3 : decode cX7_proposes 3 = .ok (.getfield 40, 3) := by decide +kernel
theorem dX7_proposes_6 : decode cX7_proposes 6 = .ok (.iconst 0, 1) := by decide +kernel
theorem dX7_proposes_7 : decode cX7_proposes 7 = .ok (.invokevirtual 138, 3) := by decide +kernel
theorem dX7_proposes_10 : decode cX7_proposes 10 = .ok (.ifCond .ne 4, 3) := by decide +kernel
theorem dX7_proposes_13 : decode cX7_proposes 13 = .ok (.return_, 1) := by decide +kernel
theorem dX7_proposes_14 : decode cX7_proposes 14 = .ok (.iconst 0, 1) := by decide +kernel
theorem dX7_proposes_15 : decode cX7_proposes 15 = .ok (.istore_n 2, 1) := by decide +kernel
theorem dX7_proposes_16 : decode cX7_proposes 16 = .ok (.iload_n 2, 1) := by decide +kernel
theorem dX7_proposes_17 : decode cX7_proposes 17 = .ok (.aload_n 0, 1) := by decide +kernel
theorem dX7_proposes_18 : decode cX7_proposes 18 = .ok (.getfield 175, 3) := by decide +kernel
theorem dX7_proposes_21 : decode cX7_proposes 21 = .ok (.if_icmp .ge 39, 3) := by decide +kernel
theorem dX7_proposes_24 : decode cX7_proposes 24 = .ok (.aload_n 0, 1) := by decide +kernel
theorem dX7_proposes_25 : decode cX7_proposes 25 = .ok (.getfield 25, 3) := by decide +kernel
theorem dX7_proposes_28 : decode cX7_proposes 28 = .ok (.iload_n 2, 1) := by decide +kernel
theorem dX7_proposes_29 : decode cX7_proposes 29 = .ok (.iaload, 1) := by decide +kernel
theorem dX7_proposes_30 : decode cX7_proposes 30 = .ok (.iload_n 1, 1) := by decide +kernel
theorem dX7_proposes_31 : decode cX7_proposes 31 = .ok (.if_icmp .ne 23, 3) := by decide +kernel
theorem dX7_proposes_34 : decode cX7_proposes 34 = .ok (.aload_n 0, 1) := by decide +kernel
theorem dX7_proposes_35 : decode cX7_proposes 35 = .ok (.getfield 40, 3) := by decide +kernel
theorem dX7_proposes_38 : decode cX7_proposes 38 = .ok (.iconst 0, 1) := by decide +kernel
theorem dX7_proposes_39 : decode cX7_proposes 39 = .ok (.aload_n 0, 1) := by decide +kernel
theorem dX7_proposes_40 : decode cX7_proposes 40 = .ok (.getfield 34, 3) := by decide +kernel
theorem dX7_proposes_43 : decode cX7_proposes 43 = .ok (.bipush 11, 2) := by decide +kernel
theorem dX7_proposes_45 : decode cX7_proposes 45 = .ok (.iload_n 2, 1) := by decide +kernel
theorem dX7_proposes_46 : decode cX7_proposes 46 = .ok (.imul, 1) := by decide +kernel
theorem dX7_proposes_47 : decode cX7_proposes 47 = .ok (.invokestatic 85, 3) := by decide +kernel
theorem dX7_proposes_50 : decode cX7_proposes 50 = .ok (.ifCond .eq 4, 3) := by decide +kernel
theorem dX7_proposes_53 : decode cX7_proposes 53 = .ok (.return_, 1) := by decide +kernel
theorem dX7_proposes_54 : decode cX7_proposes 54 = .ok (.iinc 2 1, 3) := by decide +kernel
theorem dX7_proposes_57 : decode cX7_proposes 57 = .ok (.goto (-41), 3) := by decide +kernel
theorem dX7_proposes_60 : decode cX7_proposes 60 = .ok (.aload_n 0, 1) := by decide +kernel
theorem dX7_proposes_61 : decode cX7_proposes 61 = .ok (.iload_n 1, 1) := by decide +kernel
theorem dX7_proposes_62 : decode cX7_proposes 62 = .ok (.aload_n 0, 1) := by decide +kernel
theorem dX7_proposes_63 : decode cX7_proposes 63 = .ok (.getfield 40, 3) := by decide +kernel
theorem dX7_proposes_66 : decode cX7_proposes 66 = .ok (.iconst 0, 1) := by decide +kernel
theorem dX7_proposes_67 : decode cX7_proposes 67 = .ok (.invokevirtual 178, 3) := by decide +kernel
theorem dX7_proposes_70 : decode cX7_proposes 70 = .ok (.iconst 0, 1) := by decide +kernel
theorem dX7_proposes_71 : decode cX7_proposes 71 = .ok (.istore_n 2, 1) := by decide +kernel
theorem dX7_proposes_72 : decode cX7_proposes 72 = .ok (.iconst 0, 1) := by decide +kernel
theorem dX7_proposes_73 : decode cX7_proposes 73 = .ok (.istore_n 3, 1) := by decide +kernel
theorem dX7_proposes_74 : decode cX7_proposes 74 = .ok (.iload_n 3, 1) := by decide +kernel
theorem dX7_proposes_75 : decode cX7_proposes 75 = .ok (.aload_n 0, 1) := by decide +kernel
theorem dX7_proposes_76 : decode cX7_proposes 76 = .ok (.getfield 168, 3) := by decide +kernel
theorem dX7_proposes_79 : decode cX7_proposes 79 = .ok (.if_icmp .ge 32, 3) := by decide +kernel
theorem dX7_proposes_82 : decode cX7_proposes 82 = .ok (.iload_n 2, 1) := by decide +kernel
theorem dX7_proposes_83 : decode cX7_proposes 83 = .ok (.aload_n 0, 1) := by decide +kernel
theorem dX7_proposes_84 : decode cX7_proposes 84 = .ok (.aload_n 0, 1) := by decide +kernel
theorem dX7_proposes_85 : decode cX7_proposes 85 = .ok (.getfield 43, 3) := by decide +kernel
theorem dX7_proposes_88 : decode cX7_proposes 88 = .ok (.bipush 17, 2) := by decide +kernel
theorem dX7_proposes_90 : decode cX7_proposes 90 = .ok (.iload_n 3, 1) := by decide +kernel
theorem dX7_proposes_91 : decode cX7_proposes 91 = .ok (.imul, 1) := by decide +kernel
theorem dX7_proposes_92 : decode cX7_proposes 92 = .ok (.invokevirtual 153, 3) := by decide +kernel
theorem dX7_proposes_95 : decode cX7_proposes 95 = .ok (.ifCond .lt 7, 3) := by decide +kernel
theorem dX7_proposes_98 : decode cX7_proposes 98 = .ok (.iconst 1, 1) := by decide +kernel
theorem dX7_proposes_99 : decode cX7_proposes 99 = .ok (.goto 4, 3) := by decide +kernel
theorem dX7_proposes_102 : decode cX7_proposes 102 = .ok (.iconst 0, 1) := by decide +kernel
theorem dX7_proposes_103 : decode cX7_proposes 103 = .ok (.iadd, 1) := by decide +kernel
theorem dX7_proposes_104 : decode cX7_proposes 104 = .ok (.istore_n 2, 1) := by decide +kernel
theorem dX7_proposes_105 : decode cX7_proposes 105 = .ok (.iinc 3 1, 3) := by decide +kernel
theorem dX7_proposes_108 : decode cX7_proposes 108 = .ok (.goto (-34), 3) := by decide +kernel
theorem dX7_proposes_111 : decode cX7_proposes 111 = .ok (.iload_n 2, 1) := by decide +kernel
theorem dX7_proposes_112 : decode cX7_proposes 112 = .ok (.ifCond .ne 4, 3) := by decide +kernel
theorem dX7_proposes_115 : decode cX7_proposes 115 = .ok (.return_, 1) := by decide +kernel
theorem dX7_proposes_116 : decode cX7_proposes 116 = .ok (.aload_n 0, 1) := by decide +kernel
theorem dX7_proposes_117 : decode cX7_proposes 117 = .ok (.getfield 175, 3) := by decide +kernel
theorem dX7_proposes_120 : decode cX7_proposes 120 = .ok (.istore_n 3, 1) := by decide +kernel
theorem dX7_proposes_121 : decode cX7_proposes 121 = .ok (.aload_n 0, 1) := by decide +kernel
theorem dX7_proposes_122 : decode cX7_proposes 122 = .ok (.getfield 25, 3) := by decide +kernel
theorem dX7_proposes_125 : decode cX7_proposes 125 = .ok (.iload_n 3, 1) := by decide +kernel
theorem dX7_proposes_126 : decode cX7_proposes 126 = .ok (.iload_n 1, 1) := by decide +kernel
theorem dX7_proposes_127 : decode cX7_proposes 127 = .ok (.iastore, 1) := by decide +kernel
theorem dX7_proposes_128 : decode cX7_proposes 128 = .ok (.aload_n 0, 1) := by decide +kernel
theorem dX7_proposes_129 : decode cX7_proposes 129 = .ok (.getfield 28, 3) := by decide +kernel
theorem dX7_proposes_132 : decode cX7_proposes 132 = .ok (.iload_n 3, 1) := by decide +kernel
theorem dX7_proposes_133 : decode cX7_proposes 133 = .ok (.iload_n 2, 1) := by decide +kernel
theorem dX7_proposes_134 : decode cX7_proposes 134 = .ok (.iastore, 1) := by decide +kernel
theorem dX7_proposes_135 : decode cX7_proposes 135 = .ok (.aload_n 0, 1) := by decide +kernel
theorem dX7_proposes_136 : decode cX7_proposes 136 = .ok (.getfield 31, 3) := by decide +kernel
theorem dX7_proposes_139 : decode cX7_proposes 139 = .ok (.iload_n 3, 1) := by decide +kernel
theorem dX7_proposes_140 : decode cX7_proposes 140 = .ok (.aload_n 0, 1) := by decide +kernel
theorem dX7_proposes_141 : decode cX7_proposes 141 = .ok (.getfield 168, 3) := by decide +kernel
theorem dX7_proposes_144 : decode cX7_proposes 144 = .ok (.iastore, 1) := by decide +kernel
theorem dX7_proposes_145 : decode cX7_proposes 145 = .ok (.aload_n 0, 1) := by decide +kernel
theorem dX7_proposes_146 : decode cX7_proposes 146 = .ok (.getfield 40, 3) := by decide +kernel
theorem dX7_proposes_149 : decode cX7_proposes 149 = .ok (.iconst 0, 1) := by decide +kernel
theorem dX7_proposes_150 : decode cX7_proposes 150 = .ok (.aload_n 0, 1) := by decide +kernel
theorem dX7_proposes_151 : decode cX7_proposes 151 = .ok (.getfield 34, 3) := by decide +kernel
theorem dX7_proposes_154 : decode cX7_proposes 154 = .ok (.bipush 11, 2) := by decide +kernel
theorem dX7_proposes_156 : decode cX7_proposes 156 = .ok (.iload_n 3, 1) := by decide +kernel
theorem dX7_proposes_157 : decode cX7_proposes 157 = .ok (.imul, 1) := by decide +kernel
theorem dX7_proposes_158 : decode cX7_proposes 158 = .ok (.invokestatic 131, 3) := by decide +kernel
theorem dX7_proposes_161 : decode cX7_proposes 161 = .ok (.iload_n 3, 1) := by decide +kernel
theorem dX7_proposes_162 : decode cX7_proposes 162 = .ok (.istore 4, 2) := by decide +kernel
theorem dX7_proposes_164 : decode cX7_proposes 164 = .ok (.iload 4, 2) := by decide +kernel
theorem dX7_proposes_166 : decode cX7_proposes 166 = .ok (.ifCond .le 42, 3) := by decide +kernel
theorem dX7_proposes_169 : decode cX7_proposes 169 = .ok (.aload_n 0, 1) := by decide +kernel
theorem dX7_proposes_170 : decode cX7_proposes 170 = .ok (.iload_n 3, 1) := by decide +kernel
theorem dX7_proposes_171 : decode cX7_proposes 171 = .ok (.aload_n 0, 1) := by decide +kernel
theorem dX7_proposes_172 : decode cX7_proposes 172 = .ok (.getfield 37, 3) := by decide +kernel
theorem dX7_proposes_175 : decode cX7_proposes 175 = .ok (.iload 4, 2) := by decide +kernel
theorem dX7_proposes_177 : decode cX7_proposes 177 = .ok (.iconst 1, 1) := by decide +kernel
theorem dX7_proposes_178 : decode cX7_proposes 178 = .ok (.isub, 1) := by decide +kernel
theorem dX7_proposes_179 : decode cX7_proposes 179 = .ok (.iaload, 1) := by decide +kernel
theorem dX7_proposes_180 : decode cX7_proposes 180 = .ok (.invokevirtual 182, 3) := by decide +kernel
theorem dX7_proposes_183 : decode cX7_proposes 183 = .ok (.ifCond .eq 25, 3) := by decide +kernel
theorem dX7_proposes_186 : decode cX7_proposes 186 = .ok (.aload_n 0, 1) := by decide +kernel
theorem dX7_proposes_187 : decode cX7_proposes 187 = .ok (.getfield 37, 3) := by decide +kernel
theorem dX7_proposes_190 : decode cX7_proposes 190 = .ok (.iload 4, 2) := by decide +kernel
theorem dX7_proposes_192 : decode cX7_proposes 192 = .ok (.aload_n 0, 1) := by decide +kernel
theorem dX7_proposes_193 : decode cX7_proposes 193 = .ok (.getfield 37, 3) := by decide +kernel
theorem dX7_proposes_196 : decode cX7_proposes 196 = .ok (.iload 4, 2) := by decide +kernel
theorem dX7_proposes_198 : decode cX7_proposes 198 = .ok (.iconst 1, 1) := by decide +kernel
theorem dX7_proposes_199 : decode cX7_proposes 199 = .ok (.isub, 1) := by decide +kernel
theorem dX7_proposes_200 : decode cX7_proposes 200 = .ok (.iaload, 1) := by decide +kernel
theorem dX7_proposes_201 : decode cX7_proposes 201 = .ok (.iastore, 1) := by decide +kernel
theorem dX7_proposes_202 : decode cX7_proposes 202 = .ok (.iinc 4 (-1), 3) := by decide +kernel
theorem dX7_proposes_205 : decode cX7_proposes 205 = .ok (.goto (-41), 3) := by decide +kernel
theorem dX7_proposes_208 : decode cX7_proposes 208 = .ok (.aload_n 0, 1) := by decide +kernel
theorem dX7_proposes_209 : decode cX7_proposes 209 = .ok (.getfield 37, 3) := by decide +kernel
theorem dX7_proposes_212 : decode cX7_proposes 212 = .ok (.iload 4, 2) := by decide +kernel
theorem dX7_proposes_214 : decode cX7_proposes 214 = .ok (.iload_n 3, 1) := by decide +kernel
theorem dX7_proposes_215 : decode cX7_proposes 215 = .ok (.iastore, 1) := by decide +kernel
theorem dX7_proposes_216 : decode cX7_proposes 216 = .ok (.aload_n 0, 1) := by decide +kernel
theorem dX7_proposes_217 : decode cX7_proposes 217 = .ok (.dup, 1) := by decide +kernel
theorem dX7_proposes_218 : decode cX7_proposes 218 = .ok (.getfield 175, 3) := by decide +kernel
theorem dX7_proposes_221 : decode cX7_proposes 221 = .ok (.iconst 1, 1) := by decide +kernel
theorem dX7_proposes_222 : decode cX7_proposes 222 = .ok (.iadd, 1) := by decide +kernel
theorem dX7_proposes_223 : decode cX7_proposes 223 = .ok (.putfield 175, 3) := by decide +kernel
theorem dX7_proposes_226 : decode cX7_proposes 226 = .ok (.return_, 1) := by decide +kernel
def rX7_proposes : Room := { frames := 4, cells := 0, slots := 0, locals := 95 }
theorem fX7_proposes_40 : Cond.fieldLink RX7 40 (TX7 15).1 (TX7 15).2.1 (TX7 15).2.2.1 ∈ wsX7_proposes := by decide +kernel
theorem fX7_proposes_175 : Cond.fieldLink RX7 175 (TX7 9).1 (TX7 9).2.1 (TX7 9).2.2.1 ∈ wsX7_proposes := by decide +kernel
theorem fX7_proposes_168 : Cond.fieldLink RX7 168 (TX7 17).1 (TX7 17).2.1 (TX7 17).2.2.1 ∈ wsX7_proposes := by decide +kernel
theorem fX7_proposes_25 : Cond.fieldLink RX7 25 (TX7 10).1 (TX7 10).2.1 (TX7 10).2.2.1 ∈ wsX7_proposes := by decide +kernel
theorem fX7_proposes_28 : Cond.fieldLink RX7 28 (TX7 11).1 (TX7 11).2.1 (TX7 11).2.2.1 ∈ wsX7_proposes := by decide +kernel
theorem fX7_proposes_31 : Cond.fieldLink RX7 31 (TX7 12).1 (TX7 12).2.1 (TX7 12).2.2.1 ∈ wsX7_proposes := by decide +kernel
theorem fX7_proposes_34 : Cond.fieldLink RX7 34 (TX7 13).1 (TX7 13).2.1 (TX7 13).2.2.1 ∈ wsX7_proposes := by decide +kernel
theorem fX7_proposes_37 : Cond.fieldLink RX7 37 (TX7 14).1 (TX7 14).2.1 (TX7 14).2.2.1 ∈ wsX7_proposes := by decide +kernel
theorem fX7_proposes_43 : Cond.fieldLink RX7 43 (TX7 16).1 (TX7 16).2.1 (TX7 16).2.2.1 ∈ wsX7_proposes := by decide +kernel
theorem iX7_proposes_6 : ∀ w ∈ u_ws RX7 TX7 19, w ∈ wsX7_proposes := by decide +kernel
set_option maxRecDepth 100000 in
set_option maxHeartbeats 4000000 in
theorem tX7_proposes_208 {p : Program} {l : Launch} {e : Env} {s : State} {m : MethodId} {args : Array Value} {below : List Frame} {meth : Method} {c : Code} {a : Nat → Nat} {cy : Nat → ClassId} {D : va_G} {tV : Nat} {sa : Nat → Nat} (C : zC p l s m args meth c cX7_proposes 5 wsX7_proposes RX7 a cy D tV sa) (hr : meth.sig.returnType = none) {k0 : Nat} (hk0 : zk k0 = 6) {P : Sto → Prop} : ∀ (x3 x4 : Int) (σ : Sto), vX7_proposes_208 k0 P x3 x4 σ → zX p l e rX7_proposes s m args below meth c 5 a cy D (MQ below (fun _ => zQo a cy D s.heap.size (zPV P)) args s 0 0 (zA a s.heap.size)) 0 0 σ 208 [(0, .ref (a k0)), (3, .int (zI x3)), (4, .int (zI x4))] [] := by
  intro x3 x4 σ hq
  unfold vX7_proposes_208 at hq
  refine zr_aload_n C dX7_proposes_208 rfl (k := 0) rfl rfl ?_
  refine zr_get C (zE_6 hk0) (zk_lt hk0 (by decide)) (Cn := RX7) (T := TX7) (N := 19) rfl iX7_proposes_6 14 (by decide) fX7_proposes_37 rfl dX7_proposes_209 rfl ?_
  refine zr_iload C dX7_proposes_212 (k := 2) rfl rfl ?_
  refine zr_iload_n C dX7_proposes_214 rfl (k := 1) rfl rfl ?_
  obtain ⟨h0, h1, hq⟩ := hq
  refine zr_iast C (zf_6_ranked hk0) h0 h1 dX7_proposes_215 rfl (fun s7 es7 => ?_)
  have hq := hq s7 es7
  refine zr_aload_n C dX7_proposes_216 rfl (k := 0) rfl rfl ?_
  refine zr_dup C dX7_proposes_217 rfl rfl ?_
  refine zr_get C (zE_6 hk0) (zk_lt hk0 (by decide)) (Cn := RX7) (T := TX7) (N := 19) rfl iX7_proposes_6 9 (by decide) fX7_proposes_175 rfl dX7_proposes_218 rfl ?_
  refine zr_iconst C dX7_proposes_221 rfl ?_
  refine zr_iadd C dX7_proposes_222 rfl ?_
  refine zr_put C (zE_6 hk0) (zk_lt hk0 (by decide)) (by rw [hk0]; decide) (Cn := RX7) (T := TX7) (N := 19) rfl iX7_proposes_6 tyX7 tyX7_ok nmX7 9 (by decide) fX7_proposes_175 rfl (ty := .int) (by decide +kernel) rfl rfl (Nat.le_of_ble_eq_true rfl) (zp_6_9 hk0) dX7_proposes_223 rfl (fun s8 es8 => ?_)
  have hq := hq s8 es8
  exact zr_vret C hr dX7_proposes_226 ⟨rfl, hq⟩
set_option maxRecDepth 100000 in
set_option maxHeartbeats 4000000 in
theorem tX7_proposes_164 {p : Program} {l : Launch} {e : Env} {s : State} {m : MethodId} {args : Array Value} {below : List Frame} {meth : Method} {c : Code} {a : Nat → Nat} {cy : Nat → ClassId} {D : va_G} {tV : Nat} {sa : Nat → Nat} (C : zC p l s m args meth c cX7_proposes 5 wsX7_proposes RX7 a cy D tV sa) (hr : meth.sig.returnType = none) {k0 : Nat} (hk0 : zk k0 = 6) {P : Sto → Prop} : ∀ (n : Nat) (x3 x4 : Int) (σ : Sto), vX7_proposes_164 k0 P n x3 x4 σ → zX p l e rX7_proposes s m args below meth c 5 a cy D (MQ below (fun _ => zQo a cy D s.heap.size (zPV P)) args s 0 0 (zA a s.heap.size)) 0 0 σ 164 [(0, .ref (a k0)), (3, .int (zI x3)), (4, .int (zI x4))] [] := by
  intro n
  induction n with
  | zero => intro x3 x4 σ hq; exact hq.elim
  | succ n ih =>
    intro x3 x4 σ hq
    have hK164 := ih
    have hq : bX7_proposes_164 k0 P (vX7_proposes_164 k0 P n) x3 x4 σ := hq
    unfold bX7_proposes_164 at hq
    refine zr_iload C dX7_proposes_164 (k := 2) rfl rfl ?_
    obtain ⟨h0, hq⟩ := hq
    refine zr_if_le C (tgt := 208) dX7_proposes_166 (by decide) h0 rfl (fun z => ?_) (fun z => ?_)
    · have hq := hq.1 z
      exact zr_sub C [0, 1, 2] rfl (tX7_proposes_208 C hr hk0 _ _ _ hq)
    · have hq := hq.2 z
      refine zr_aload_n C dX7_proposes_169 rfl (k := 0) rfl rfl ?_
      refine zr_iload_n C dX7_proposes_170 rfl (k := 1) rfl rfl ?_
      refine zr_aload_n C dX7_proposes_171 rfl (k := 0) rfl rfl ?_
      refine zr_get C (zE_6 hk0) (zk_lt hk0 (by decide)) (Cn := RX7) (T := TX7) (N := 19) rfl iX7_proposes_6 14 (by decide) fX7_proposes_37 rfl dX7_proposes_172 rfl ?_
      refine zr_iload C dX7_proposes_175 (k := 2) rfl rfl ?_
      refine zr_iconst C dX7_proposes_177 rfl ?_
      refine zr_isub C dX7_proposes_178 rfl ?_
      obtain ⟨h0, h1, hq⟩ := hq
      refine zr_iald C (zf_6_ranked hk0) h0 h1 dX7_proposes_179 rfl ?_
      refine zr_calli (zrunV C (st := []) (mX7_isAhead hk0 hq) (cwV 2 C.2.2.2.2.1 gX7_proposes_X7_isAhead rfl rfl rfl (by decide +kernel) ⟨Nat.le_of_ble_eq_true rfl, Nat.le_of_ble_eq_true rfl⟩) (zE_6 hk0) (zk_lt hk0 (by decide)) (T := TX7) (N := 19) rfl rfl rfl (Nat.le_of_ble_eq_true rfl) dX7_proposes_180 ⟨Nat.zero_le _, Nat.zero_le _⟩) rfl (fun r9 s9 hq => ?_)
      obtain ⟨h0, hq⟩ := hq
      refine zr_if_eq C (tgt := 208) dX7_proposes_183 (by decide) h0 rfl (fun z => ?_) (fun z => ?_)
      · have hq := hq.1 z
        exact zr_sub C [0, 1, 2] rfl (tX7_proposes_208 C hr hk0 _ _ _ hq)
      · have hq := hq.2 z
        refine zr_aload_n C dX7_proposes_186 rfl (k := 0) rfl rfl ?_
        refine zr_get C (zE_6 hk0) (zk_lt hk0 (by decide)) (Cn := RX7) (T := TX7) (N := 19) rfl iX7_proposes_6 14 (by decide) fX7_proposes_37 rfl dX7_proposes_187 rfl ?_
        refine zr_iload C dX7_proposes_190 (k := 2) rfl rfl ?_
        refine zr_aload_n C dX7_proposes_192 rfl (k := 0) rfl rfl ?_
        refine zr_get C (zE_6 hk0) (zk_lt hk0 (by decide)) (Cn := RX7) (T := TX7) (N := 19) rfl iX7_proposes_6 14 (by decide) fX7_proposes_37 rfl dX7_proposes_193 rfl ?_
        refine zr_iload C dX7_proposes_196 (k := 2) rfl rfl ?_
        refine zr_iconst C dX7_proposes_198 rfl ?_
        refine zr_isub C dX7_proposes_199 rfl ?_
        obtain ⟨h0, h1, hq⟩ := hq
        refine zr_iald C (zf_6_ranked hk0) h0 h1 dX7_proposes_200 rfl ?_
        obtain ⟨h0, h1, hq⟩ := hq
        refine zr_iast C (zf_6_ranked hk0) h0 h1 dX7_proposes_201 rfl (fun s10 es10 => ?_)
        have hq := hq s10 es10
        refine zr_iinc C (L' := [(4, .int (zI (x4 + (-1)))), (0, .ref (a k0)), (3, .int (zI x3))]) dX7_proposes_202 (k := 2) rfl (by decide) rfl rfl ?_
        refine zr_goto C (tgt := 164) dX7_proposes_205 (by decide) ?_
        exact zr_sub C [1, 2, 0] rfl (hK164 _ _ _ hq)
set_option maxRecDepth 100000 in
set_option maxHeartbeats 4000000 in
theorem tX7_proposes_103 {p : Program} {l : Launch} {e : Env} {s : State} {m : MethodId} {args : Array Value} {below : List Frame} {meth : Method} {c : Code} {a : Nat → Nat} {cy : Nat → ClassId} {D : va_G} {tV : Nat} {sa : Nat → Nat} (C : zC p l s m args meth c cX7_proposes 5 wsX7_proposes RX7 a cy D tV sa) (hr : meth.sig.returnType = none) {k0 : Nat} (hk0 : zk k0 = 6) {P : Sto → Prop} {K74 : Int → Int → Int → Sto → Prop} (hK74 : ∀ (x1 x2 x3 : Int) (σ : Sto), K74 x1 x2 x3 σ → zX p l e rX7_proposes s m args below meth c 5 a cy D (MQ below (fun _ => zQo a cy D s.heap.size (zPV P)) args s 0 0 (zA a s.heap.size)) 0 0 σ 74 [(0, .ref (a k0)), (1, .int (zI x1)), (2, .int (zI x2)), (3, .int (zI x3))] []) : ∀ (x1 x3 y0 y1 : Int) (σ : Sto), vX7_proposes_103 k0 P K74 x1 x3 y0 y1 σ → zX p l e rX7_proposes s m args below meth c 5 a cy D (MQ below (fun _ => zQo a cy D s.heap.size (zPV P)) args s 0 0 (zA a s.heap.size)) 0 0 σ 103 [(0, .ref (a k0)), (1, .int (zI x1)), (3, .int (zI x3))] [.int (zI y0), .int (zI y1)] := by
  intro x1 x3 y0 y1 σ hq
  unfold vX7_proposes_103 at hq
  refine zr_iadd C dX7_proposes_103 rfl ?_
  refine zr_istore_n C (L' := [(2, .int (zI (y1 + y0))), (0, .ref (a k0)), (1, .int (zI x1)), (3, .int (zI x3))]) dX7_proposes_104 rfl (by decide) rfl rfl ?_
  refine zr_iinc C (L' := [(3, .int (zI (x3 + 1))), (2, .int (zI (y1 + y0))), (0, .ref (a k0)), (1, .int (zI x1))]) dX7_proposes_105 (k := 3) rfl (by decide) rfl rfl ?_
  refine zr_goto C (tgt := 74) dX7_proposes_108 (by decide) ?_
  exact zr_sub C [2, 3, 1, 0] rfl (hK74 _ _ _ _ hq)
set_option maxRecDepth 100000 in
set_option maxHeartbeats 4000000 in
theorem tX7_proposes_74 {p : Program} {l : Launch} {e : Env} {s : State} {m : MethodId} {args : Array Value} {below : List Frame} {meth : Method} {c : Code} {a : Nat → Nat} {cy : Nat → ClassId} {D : va_G} {tV : Nat} {sa : Nat → Nat} (C : zC p l s m args meth c cX7_proposes 5 wsX7_proposes RX7 a cy D tV sa) (hr : meth.sig.returnType = none) {k0 : Nat} (hk0 : zk k0 = 6) {P : Sto → Prop} : ∀ (n : Nat) (x1 x2 x3 : Int) (σ : Sto), vX7_proposes_74 k0 P n x1 x2 x3 σ → zX p l e rX7_proposes s m args below meth c 5 a cy D (MQ below (fun _ => zQo a cy D s.heap.size (zPV P)) args s 0 0 (zA a s.heap.size)) 0 0 σ 74 [(0, .ref (a k0)), (1, .int (zI x1)), (2, .int (zI x2)), (3, .int (zI x3))] [] := by
  intro n
  induction n with
  | zero => intro x1 x2 x3 σ hq; exact hq.elim
  | succ n ih =>
    intro x1 x2 x3 σ hq
    have hK74 := ih
    have hq : bX7_proposes_74 k0 P (vX7_proposes_74 k0 P n) x1 x2 x3 σ := hq
    unfold bX7_proposes_74 at hq
    refine zr_iload_n C dX7_proposes_74 rfl (k := 3) rfl rfl ?_
    refine zr_aload_n C dX7_proposes_75 rfl (k := 0) rfl rfl ?_
    refine zr_get C (zE_6 hk0) (zk_lt hk0 (by decide)) (Cn := RX7) (T := TX7) (N := 19) rfl iX7_proposes_6 17 (by decide) fX7_proposes_168 rfl dX7_proposes_76 rfl ?_
    obtain ⟨h0, h1, hq⟩ := hq
    refine zr_icmp_ge C (tgt := 111) dX7_proposes_79 (by decide) h0 h1 rfl (fun z => ?_) (fun z => ?_)
    · have hq := hq.1 z
      refine zr_iload_n C dX7_proposes_111 rfl (k := 2) rfl rfl ?_
      obtain ⟨h0, hq⟩ := hq
      refine zr_if_ne C (tgt := 116) dX7_proposes_112 (by decide) h0 rfl (fun z => ?_) (fun z => ?_)
      · have hq := hq.1 z
        refine zr_aload_n C dX7_proposes_116 rfl (k := 0) rfl rfl ?_
        refine zr_get C (zE_6 hk0) (zk_lt hk0 (by decide)) (Cn := RX7) (T := TX7) (N := 19) rfl iX7_proposes_6 9 (by decide) fX7_proposes_175 rfl dX7_proposes_117 rfl ?_
        refine zr_istore_n C (L' := [(3, .int (zI (σ k0 9))), (0, .ref (a k0)), (1, .int (zI x1)), (2, .int (zI x2))]) dX7_proposes_120 rfl (by decide) rfl rfl ?_
        refine zr_aload_n C dX7_proposes_121 rfl (k := 1) rfl rfl ?_
        refine zr_get C (zE_6 hk0) (zk_lt hk0 (by decide)) (Cn := RX7) (T := TX7) (N := 19) rfl iX7_proposes_6 10 (by decide) fX7_proposes_25 rfl dX7_proposes_122 rfl ?_
        refine zr_iload_n C dX7_proposes_125 rfl (k := 0) rfl rfl ?_
        refine zr_iload_n C dX7_proposes_126 rfl (k := 2) rfl rfl ?_
        obtain ⟨h0, h1, hq⟩ := hq
        refine zr_iast C (zf_6_paradigms hk0) h0 h1 dX7_proposes_127 rfl (fun s3 es3 => ?_)
        have hq := hq s3 es3
        refine zr_aload_n C dX7_proposes_128 rfl (k := 1) rfl rfl ?_
        refine zr_get C (zE_6 hk0) (zk_lt hk0 (by decide)) (Cn := RX7) (T := TX7) (N := 19) rfl iX7_proposes_6 11 (by decide) fX7_proposes_28 rfl dX7_proposes_129 rfl ?_
        refine zr_iload_n C dX7_proposes_132 rfl (k := 0) rfl rfl ?_
        refine zr_iload_n C dX7_proposes_133 rfl (k := 3) rfl rfl ?_
        obtain ⟨h0, h1, hq⟩ := hq
        refine zr_iast C (zf_6_explained hk0) h0 h1 dX7_proposes_134 rfl (fun s4 es4 => ?_)
        have hq := hq s4 es4
        refine zr_aload_n C dX7_proposes_135 rfl (k := 1) rfl rfl ?_
        refine zr_get C (zE_6 hk0) (zk_lt hk0 (by decide)) (Cn := RX7) (T := TX7) (N := 19) rfl iX7_proposes_6 12 (by decide) fX7_proposes_31 rfl dX7_proposes_136 rfl ?_
        refine zr_iload_n C dX7_proposes_139 rfl (k := 0) rfl rfl ?_
        refine zr_aload_n C dX7_proposes_140 rfl (k := 1) rfl rfl ?_
        refine zr_get C (zE_6 hk0) (zk_lt hk0 (by decide)) (Cn := RX7) (T := TX7) (N := 19) rfl iX7_proposes_6 17 (by decide) fX7_proposes_168 rfl dX7_proposes_141 rfl ?_
        obtain ⟨h0, h1, hq⟩ := hq
        refine zr_iast C (zf_6_formMany hk0) h0 h1 dX7_proposes_144 rfl (fun s5 es5 => ?_)
        have hq := hq s5 es5
        refine zr_aload_n C dX7_proposes_145 rfl (k := 1) rfl rfl ?_
        refine zr_get C (zE_6 hk0) (zk_lt hk0 (by decide)) (Cn := RX7) (T := TX7) (N := 19) rfl iX7_proposes_6 15 (by decide) fX7_proposes_40 rfl dX7_proposes_146 rfl ?_
        refine zr_iconst C dX7_proposes_149 rfl ?_
        refine zr_aload_n C dX7_proposes_150 rfl (k := 1) rfl rfl ?_
        refine zr_get C (zE_6 hk0) (zk_lt hk0 (by decide)) (Cn := RX7) (T := TX7) (N := 19) rfl iX7_proposes_6 13 (by decide) fX7_proposes_34 rfl dX7_proposes_151 rfl ?_
        refine zr_bipush C dX7_proposes_154 (by decide) rfl ?_
        refine zr_iload_n C dX7_proposes_156 rfl (k := 0) rfl rfl ?_
        refine zr_imul C dX7_proposes_157 rfl ?_
        refine zr_callv (zrunS C (st := []) (mX7_copy (zf_6_stem hk0) (zf_6_stems hk0) hq) (va_cwS 4 C.2.2.2.2.1 gX7_proposes_X7_copy rfl rfl rfl (by decide +kernel) ⟨Nat.le_of_ble_eq_true rfl, Nat.le_of_ble_eq_true rfl⟩) rfl rfl (Nat.le_of_ble_eq_true rfl) dX7_proposes_158 ⟨Nat.zero_le _, Nat.zero_le _⟩) rfl (fun s6 hq => ?_)
        refine zr_iload_n C dX7_proposes_161 rfl (k := 0) rfl rfl ?_
        refine zr_istore C (L' := [(4, .int (zI (σ k0 9))), (3, .int (zI (σ k0 9))), (0, .ref (a k0)), (1, .int (zI x1)), (2, .int (zI x2))]) dX7_proposes_162 (by decide) rfl rfl ?_
        obtain ⟨n, hq⟩ := hq
        exact zr_sub C [2, 1, 0] rfl (tX7_proposes_164 C hr hk0 n _ _ _ hq)
      · have hq := hq.2 z
        exact zr_vret C hr dX7_proposes_115 ⟨rfl, hq⟩
    · have hq := hq.2 z
      refine zr_iload_n C dX7_proposes_82 rfl (k := 2) rfl rfl ?_
      refine zr_aload_n C dX7_proposes_83 rfl (k := 0) rfl rfl ?_
      refine zr_aload_n C dX7_proposes_84 rfl (k := 0) rfl rfl ?_
      refine zr_get C (zE_6 hk0) (zk_lt hk0 (by decide)) (Cn := RX7) (T := TX7) (N := 19) rfl iX7_proposes_6 16 (by decide) fX7_proposes_43 rfl dX7_proposes_85 rfl ?_
      refine zr_bipush C dX7_proposes_88 (by decide) rfl ?_
      refine zr_iload_n C dX7_proposes_90 rfl (k := 3) rfl rfl ?_
      refine zr_imul C dX7_proposes_91 rfl ?_
      refine zr_calli (zrunV C (st := [.int (zI x2)]) (mX7_attested hk0 (zf_6_forms hk0) hq) (cwV 2 C.2.2.2.2.1 gX7_proposes_X7_attested rfl rfl rfl (by decide +kernel) ⟨Nat.le_of_ble_eq_true rfl, Nat.le_of_ble_eq_true rfl⟩) (zE_6 hk0) (zk_lt hk0 (by decide)) (T := TX7) (N := 19) rfl rfl rfl (Nat.le_of_ble_eq_true rfl) dX7_proposes_92 ⟨Nat.zero_le _, Nat.zero_le _⟩) rfl (fun r11 s11 hq => ?_)
      obtain ⟨h0, hq⟩ := hq
      refine zr_if_lt C (tgt := 102) dX7_proposes_95 (by decide) h0 rfl (fun z => ?_) (fun z => ?_)
      · have hq := hq.1 z
        refine zr_iconst C dX7_proposes_102 rfl ?_
        exact zr_sub C [0, 1, 3] rfl (tX7_proposes_103 C hr hk0 hK74 _ _ _ _ _ hq)
      · have hq := hq.2 z
        refine zr_iconst C dX7_proposes_98 rfl ?_
        refine zr_goto C (tgt := 103) dX7_proposes_99 (by decide) ?_
        exact zr_sub C [0, 1, 3] rfl (tX7_proposes_103 C hr hk0 hK74 _ _ _ _ _ hq)
set_option maxRecDepth 100000 in
set_option maxHeartbeats 4000000 in
theorem tX7_proposes_54 {p : Program} {l : Launch} {e : Env} {s : State} {m : MethodId} {args : Array Value} {below : List Frame} {meth : Method} {c : Code} {a : Nat → Nat} {cy : Nat → ClassId} {D : va_G} {tV : Nat} {sa : Nat → Nat} (C : zC p l s m args meth c cX7_proposes 5 wsX7_proposes RX7 a cy D tV sa) (hr : meth.sig.returnType = none) {k0 : Nat} (hk0 : zk k0 = 6) {P : Sto → Prop} {K16 : Int → Int → Sto → Prop} (hK16 : ∀ (x1 x2 : Int) (σ : Sto), K16 x1 x2 σ → zX p l e rX7_proposes s m args below meth c 5 a cy D (MQ below (fun _ => zQo a cy D s.heap.size (zPV P)) args s 0 0 (zA a s.heap.size)) 0 0 σ 16 [(0, .ref (a k0)), (1, .int (zI x1)), (2, .int (zI x2))] []) : ∀ (x1 x2 : Int) (σ : Sto), vX7_proposes_54 k0 P K16 x1 x2 σ → zX p l e rX7_proposes s m args below meth c 5 a cy D (MQ below (fun _ => zQo a cy D s.heap.size (zPV P)) args s 0 0 (zA a s.heap.size)) 0 0 σ 54 [(0, .ref (a k0)), (1, .int (zI x1)), (2, .int (zI x2))] [] := by
  intro x1 x2 σ hq
  unfold vX7_proposes_54 at hq
  refine zr_iinc C (L' := [(2, .int (zI (x2 + 1))), (0, .ref (a k0)), (1, .int (zI x1))]) dX7_proposes_54 (k := 2) rfl (by decide) rfl rfl ?_
  refine zr_goto C (tgt := 16) dX7_proposes_57 (by decide) ?_
  exact zr_sub C [1, 2, 0] rfl (hK16 _ _ _ hq)
set_option maxRecDepth 100000 in
set_option maxHeartbeats 4000000 in
theorem tX7_proposes_16 {p : Program} {l : Launch} {e : Env} {s : State} {m : MethodId} {args : Array Value} {below : List Frame} {meth : Method} {c : Code} {a : Nat → Nat} {cy : Nat → ClassId} {D : va_G} {tV : Nat} {sa : Nat → Nat} (C : zC p l s m args meth c cX7_proposes 5 wsX7_proposes RX7 a cy D tV sa) (hr : meth.sig.returnType = none) {k0 : Nat} (hk0 : zk k0 = 6) {P : Sto → Prop} : ∀ (n : Nat) (x1 x2 : Int) (σ : Sto), vX7_proposes_16 k0 P n x1 x2 σ → zX p l e rX7_proposes s m args below meth c 5 a cy D (MQ below (fun _ => zQo a cy D s.heap.size (zPV P)) args s 0 0 (zA a s.heap.size)) 0 0 σ 16 [(0, .ref (a k0)), (1, .int (zI x1)), (2, .int (zI x2))] [] := by
  intro n
  induction n with
  | zero => intro x1 x2 σ hq; exact hq.elim
  | succ n ih =>
    intro x1 x2 σ hq
    have hK16 := ih
    have hq : bX7_proposes_16 k0 P (vX7_proposes_16 k0 P n) x1 x2 σ := hq
    unfold bX7_proposes_16 at hq
    refine zr_iload_n C dX7_proposes_16 rfl (k := 2) rfl rfl ?_
    refine zr_aload_n C dX7_proposes_17 rfl (k := 0) rfl rfl ?_
    refine zr_get C (zE_6 hk0) (zk_lt hk0 (by decide)) (Cn := RX7) (T := TX7) (N := 19) rfl iX7_proposes_6 9 (by decide) fX7_proposes_175 rfl dX7_proposes_18 rfl ?_
    obtain ⟨h0, h1, hq⟩ := hq
    refine zr_icmp_ge C (tgt := 60) dX7_proposes_21 (by decide) h0 h1 rfl (fun z => ?_) (fun z => ?_)
    · have hq := hq.1 z
      refine zr_aload_n C dX7_proposes_60 rfl (k := 0) rfl rfl ?_
      refine zr_iload_n C dX7_proposes_61 rfl (k := 1) rfl rfl ?_
      refine zr_aload_n C dX7_proposes_62 rfl (k := 0) rfl rfl ?_
      refine zr_get C (zE_6 hk0) (zk_lt hk0 (by decide)) (Cn := RX7) (T := TX7) (N := 19) rfl iX7_proposes_6 15 (by decide) fX7_proposes_40 rfl dX7_proposes_63 rfl ?_
      refine zr_iconst C dX7_proposes_66 rfl ?_
      refine zr_callv (zrunV C (st := []) (mX7_findForms hk0 (zf_6_stem hk0) hq) (cwV 3 C.2.2.2.2.1 gX7_proposes_X7_findForms rfl rfl rfl (by decide +kernel) ⟨Nat.le_of_ble_eq_true rfl, Nat.le_of_ble_eq_true rfl⟩) (zE_6 hk0) (zk_lt hk0 (by decide)) (T := TX7) (N := 19) rfl rfl rfl (Nat.le_of_ble_eq_true rfl) dX7_proposes_67 ⟨Nat.zero_le _, Nat.zero_le _⟩) rfl (fun s2 hq => ?_)
      refine zr_iconst C dX7_proposes_70 rfl ?_
      refine zr_istore_n C (L' := [(2, .int (zI 0)), (0, .ref (a k0)), (1, .int (zI x1))]) dX7_proposes_71 rfl (by decide) rfl rfl ?_
      refine zr_iconst C dX7_proposes_72 rfl ?_
      refine zr_istore_n C (L' := [(3, .int (zI 0)), (2, .int (zI 0)), (0, .ref (a k0)), (1, .int (zI x1))]) dX7_proposes_73 rfl (by decide) rfl rfl ?_
      obtain ⟨n, hq⟩ := hq
      exact zr_sub C [2, 3, 1, 0] rfl (tX7_proposes_74 C hr hk0 n _ _ _ _ hq)
    · have hq := hq.2 z
      refine zr_aload_n C dX7_proposes_24 rfl (k := 0) rfl rfl ?_
      refine zr_get C (zE_6 hk0) (zk_lt hk0 (by decide)) (Cn := RX7) (T := TX7) (N := 19) rfl iX7_proposes_6 10 (by decide) fX7_proposes_25 rfl dX7_proposes_25 rfl ?_
      refine zr_iload_n C dX7_proposes_28 rfl (k := 2) rfl rfl ?_
      obtain ⟨h0, h1, hq⟩ := hq
      refine zr_iald C (zf_6_paradigms hk0) h0 h1 dX7_proposes_29 rfl ?_
      refine zr_iload_n C dX7_proposes_30 rfl (k := 1) rfl rfl ?_
      obtain ⟨h0, h1, hq⟩ := hq
      refine zr_icmp_ne C (tgt := 54) dX7_proposes_31 (by decide) h0 h1 rfl (fun z => ?_) (fun z => ?_)
      · have hq := hq.1 z
        exact zr_sub C [0, 1, 2] rfl (tX7_proposes_54 C hr hk0 hK16 _ _ _ hq)
      · have hq := hq.2 z
        refine zr_aload_n C dX7_proposes_34 rfl (k := 0) rfl rfl ?_
        refine zr_get C (zE_6 hk0) (zk_lt hk0 (by decide)) (Cn := RX7) (T := TX7) (N := 19) rfl iX7_proposes_6 15 (by decide) fX7_proposes_40 rfl dX7_proposes_35 rfl ?_
        refine zr_iconst C dX7_proposes_38 rfl ?_
        refine zr_aload_n C dX7_proposes_39 rfl (k := 0) rfl rfl ?_
        refine zr_get C (zE_6 hk0) (zk_lt hk0 (by decide)) (Cn := RX7) (T := TX7) (N := 19) rfl iX7_proposes_6 13 (by decide) fX7_proposes_34 rfl dX7_proposes_40 rfl ?_
        refine zr_bipush C dX7_proposes_43 (by decide) rfl ?_
        refine zr_iload_n C dX7_proposes_45 rfl (k := 2) rfl rfl ?_
        refine zr_imul C dX7_proposes_46 rfl ?_
        refine zr_calli (zrunS C (st := []) (mX7_areSame (zf_6_stem hk0) (zf_6_stems hk0) hq) (va_cwS 4 C.2.2.2.2.1 gX7_proposes_X7_areSame rfl rfl rfl (by decide +kernel) ⟨Nat.le_of_ble_eq_true rfl, Nat.le_of_ble_eq_true rfl⟩) rfl rfl (Nat.le_of_ble_eq_true rfl) dX7_proposes_47 ⟨Nat.zero_le _, Nat.zero_le _⟩) rfl (fun r12 s12 hq => ?_)
        obtain ⟨h0, hq⟩ := hq
        refine zr_if_eq C (tgt := 54) dX7_proposes_50 (by decide) h0 rfl (fun z => ?_) (fun z => ?_)
        · have hq := hq.1 z
          exact zr_sub C [0, 1, 2] rfl (tX7_proposes_54 C hr hk0 hK16 _ _ _ hq)
        · have hq := hq.2 z
          exact zr_vret C hr dX7_proposes_53 ⟨rfl, hq⟩
set_option maxRecDepth 100000 in
set_option maxHeartbeats 4000000 in
theorem mX7_proposes {l : Launch} {a : Nat → Nat} {cy : Nat → ClassId} {D : va_G} {tV : Nat} {sa : Nat → Nat} {P : Sto → Prop} {σ : Sto} {k0 : Nat} {x1 : Int} (hk0 : zk k0 = 6) (hq : vX7_proposes k0 x1 P σ) : zM l yX7_proposes wsX7_proposes rX7_proposes a cy D tV sa [.ref (a k0), .int (zI x1)] σ (zPV P) :=
  zM_of (cc := cX7_proposes) (maxL := 5) (ret := none) (by decide) rfl (Nat.le_of_ble_eq_true rfl) (L0 := [(0, .ref (a k0)), (1, .int (zI x1))]) rfl (fun p e s m args below meth c C hr => by
  unfold vX7_proposes at hq
  refine zr_aload_n C dX7_proposes_0 rfl (k := 0) rfl rfl ?_
  refine zr_iload_n C dX7_proposes_1 rfl (k := 1) rfl rfl ?_
  refine zr_aload_n C dX7_proposes_2 rfl (k := 0) rfl rfl ?_
  refine zr_get C (zE_6 hk0) (zk_lt hk0 (by decide)) (Cn := RX7) (T := TX7) (N := 19) rfl iX7_proposes_6 15 (by decide) fX7_proposes_40 rfl dX7_proposes_3 rfl ?_
  refine zr_iconst C dX7_proposes_6 rfl ?_
  refine zr_calli (zrunV C (st := []) (mX7_isStem hk0 (zf_6_stem hk0) hq) (cwV 3 C.2.2.2.2.1 gX7_proposes_X7_isStem rfl rfl rfl (by decide +kernel) ⟨Nat.le_of_ble_eq_true rfl, Nat.le_of_ble_eq_true rfl⟩) (zE_6 hk0) (zk_lt hk0 (by decide)) (T := TX7) (N := 19) rfl rfl rfl (Nat.le_of_ble_eq_true rfl) dX7_proposes_7 ⟨Nat.zero_le _, Nat.zero_le _⟩) rfl (fun r1 s1 hq => ?_)
  obtain ⟨h0, hq⟩ := hq
  refine zr_if_ne C (tgt := 14) dX7_proposes_10 (by decide) h0 rfl (fun z => ?_) (fun z => ?_)
  · have hq := hq.1 z
    refine zr_iconst C dX7_proposes_14 rfl ?_
    refine zr_istore_n C (L' := [(2, .int (zI 0)), (0, .ref (a k0)), (1, .int (zI x1))]) dX7_proposes_15 rfl (by decide) rfl rfl ?_
    obtain ⟨n, hq⟩ := hq
    exact zr_sub C [1, 2, 0] rfl (tX7_proposes_16 C hr hk0 n _ _ _ hq)
  · have hq := hq.2 z
    exact zr_vret C hr dX7_proposes_13 ⟨rfl, hq⟩)
/-! InflectionGuesserModel.proposesFrom(III)V -/
set_option maxRecDepth 20000 in
theorem ggX7_proposesFrom_X7_cellAt : GoodIn wsX7_proposesFrom wsX7_cellAt := goodIn_r _ [6, 7, 8, 5, 9] (by decide +kernel) (by decide +kernel)
set_option maxRecDepth 20000 in
theorem gX7_proposesFrom_X7_cellAt : GoodIn wsX7_proposesFrom (va_wsS RX7 123 yX7_cellAt wsX7_cellAt) := goodIn_app (goodIn_of _ (by decide +kernel)) ggX7_proposesFrom_X7_cellAt
set_option maxRecDepth 20000 in
theorem ggX7_proposesFrom_X7_copy : GoodIn wsX7_proposesFrom wsX7_copy := goodIn_r _ [18] (by decide +kernel) (by decide +kernel)
set_option maxRecDepth 20000 in
theorem gX7_proposesFrom_X7_copy : GoodIn wsX7_proposesFrom (va_wsS RX7 131 yX7_copy wsX7_copy) := goodIn_app (goodIn_of _ (by decide +kernel)) ggX7_proposesFrom_X7_copy
set_option maxRecDepth 20000 in
theorem ggX7_proposesFrom_X7_endsIn : GoodIn wsX7_proposesFrom wsX7_endsIn := goodIn_r _ [15] (by decide +kernel) (by decide +kernel)
set_option maxRecDepth 20000 in
theorem gX7_proposesFrom_X7_endsIn : GoodIn wsX7_proposesFrom (va_wsS RX7 135 yX7_endsIn wsX7_endsIn) := goodIn_app (goodIn_of _ (by decide +kernel)) ggX7_proposesFrom_X7_endsIn
set_option maxRecDepth 20000 in
theorem ggX7_proposesFrom_X7_lastVowel : GoodIn wsX7_proposesFrom wsX7_lastVowel := goodIn_r _ [24, 25, 26, 5, 27] (by decide +kernel) (by decide +kernel)
set_option maxRecDepth 20000 in
theorem gX7_proposesFrom_X7_lastVowel : GoodIn wsX7_proposesFrom (va_wsS RX7 142 yX7_lastVowel wsX7_lastVowel) := goodIn_app (goodIn_of _ (by decide +kernel)) ggX7_proposesFrom_X7_lastVowel
set_option maxRecDepth 20000 in
theorem ggX7_proposesFrom_X7_proposes : GoodIn wsX7_proposesFrom wsX7_proposes := goodIn_r _ [31, 2, 32, 33, 34, 35, 36, 37, 38, 39, 40, 41, 42, 5, 43, 44, 45, 1, 46, 47, 48, 7, 8, 9, 25, 26, 27, 13, 14, 15, 49, 50, 51, 52, 53, 54, 55, 56, 57, 58, 59, 60, 61, 62, 63, 64, 3, 4, 6, 16, 17, 18, 19, 20, 21, 22, 23, 24, 65, 66, 67, 68, 69, 70, 71, 10, 11, 12, 72, 73, 74, 75, 76, 77, 78, 79, 80, 81, 82, 83, 84, 85, 86, 87, 88, 89, 90, 91, 92, 93, 94, 95, 96, 97] (by decide +kernel) (by decide +kernel)
set_option maxRecDepth 20000 in
theorem gX7_proposesFrom_X7_proposes : GoodIn wsX7_proposesFrom (wsV RX7 185 RX7 yX7_proposes wsX7_proposes) := goodIn_app (goodIn_of _ (by decide +kernel)) ggX7_proposesFrom_X7_proposes
set_option maxRecDepth 20000 in
theorem ggX7_proposesFrom_X7_put : GoodIn wsX7_proposesFrom wsX7_put := goodIn_r _ [21] (by decide +kernel) (by decide +kernel)
set_option maxRecDepth 20000 in
theorem gX7_proposesFrom_X7_put : GoodIn wsX7_proposesFrom (va_wsS RX7 109 yX7_put wsX7_put) := goodIn_app (goodIn_of _ (by decide +kernel)) ggX7_proposesFrom_X7_put
set_option maxRecDepth 20000 in
theorem ggX7_proposesFrom_X7_vowel : GoodIn wsX7_proposesFrom wsX7_vowel := goodIn_r _ [67] (by decide +kernel) (by decide +kernel)
set_option maxRecDepth 20000 in
theorem gX7_proposesFrom_X7_vowel : GoodIn wsX7_proposesFrom (va_wsS RX7 146 yX7_vowel wsX7_vowel) := goodIn_app (goodIn_of _ (by decide +kernel)) ggX7_proposesFrom_X7_vowel
set_option maxRecDepth 20000 in
theorem ggX7_proposesFrom_X7_wordAt : GoodIn wsX7_proposesFrom wsX7_wordAt := goodIn_r _ [12] (by decide +kernel) (by decide +kernel)
set_option maxRecDepth 20000 in
theorem gX7_proposesFrom_X7_wordAt : GoodIn wsX7_proposesFrom (va_wsS RX7 82 yX7_wordAt wsX7_wordAt) := goodIn_app (goodIn_of _ (by decide +kernel)) ggX7_proposesFrom_X7_wordAt
theorem dX7_proposesFrom_0 : decode cX7_proposesFrom 0 = .ok (.iload_n 1, 1) := by decide +kernel
theorem dX7_proposesFrom_1 : decode cX7_proposesFrom 1 = .ok (.iload_n 2, 1) := by decide +kernel
theorem dX7_proposesFrom_2 : decode cX7_proposesFrom 2 = .ok (.invokestatic 123, 3) := by decide +kernel
theorem dX7_proposesFrom_5 : decode cX7_proposesFrom 5 = .ok (.istore 4, 2) := by decide +kernel
theorem dX7_proposesFrom_7 : decode cX7_proposesFrom 7 = .ok (.aload_n 0, 1) := by decide +kernel
theorem dX7_proposesFrom_8 : decode cX7_proposesFrom 8 = .ok (.getfield 9, 3) := by decide +kernel
theorem dX7_proposesFrom_11 : decode cX7_proposesFrom 11 = .ok (.iload_n 3, 1) := by decide +kernel
theorem dX7_proposesFrom_12 : decode cX7_proposesFrom 12 = .ok (.invokestatic 82, 3) := by decide +kernel
theorem dX7_proposesFrom_15 : decode cX7_proposesFrom 15 = .ok (.aload_n 0, 1) := by decide +kernel
theorem dX7_proposesFrom_16 : decode cX7_proposesFrom 16 = .ok (.getfield 9, 3) := by decide +kernel
theorem dX7_proposesFrom_19 : decode cX7_proposesFrom 19 = .ok (.iload 4, 2) := by decide +kernel
theorem dX7_proposesFrom_21 : decode cX7_proposesFrom 21 = .ok (.bipush 7, 2) := by decide +kernel
theorem dX7_proposesFrom_23 : decode cX7_proposesFrom 23 = .ok (.iadd, 1) := by decide +kernel
theorem dX7_proposesFrom_24 : decode cX7_proposesFrom 24 = .ok (.invokestatic 135, 3) := by decide +kernel
theorem dX7_proposesFrom_27 : decode cX7_proposesFrom 27 = .ok (.ifCond .ne 4, 3) := by decide +kernel
theorem dX7_proposesFrom_30 : decode cX7_proposesFrom 30 = .ok (.return_, 1) := by decide +kernel
theorem dX7_proposesFrom_31 : decode cX7_proposesFrom 31 = .ok (.aload_n 0, 1) := by decide +kernel
theorem dX7_proposesFrom_32 : decode cX7_proposesFrom 32 = .ok (.getfield 9, 3) := by decide +kernel
theorem dX7_proposesFrom_35 : decode cX7_proposesFrom 35 = .ok (.iload_n 3, 1) := by decide +kernel
theorem dX7_proposesFrom_36 : decode cX7_proposesFrom 36 = .ok (.invokestatic 82, 3) := by decide +kernel
theorem dX7_proposesFrom_39 : decode cX7_proposesFrom 39 = .ok (.aload_n 0, 1) := by decide +kernel
theorem dX7_proposesFrom_40 : decode cX7_proposesFrom 40 = .ok (.getfield 40, 3) := by decide +kernel
theorem dX7_proposesFrom_43 : decode cX7_proposesFrom 43 = .ok (.iconst 0, 1) := by decide +kernel
theorem dX7_proposesFrom_44 : decode cX7_proposesFrom 44 = .ok (.invokestatic 131, 3) := by decide +kernel
theorem dX7_proposesFrom_47 : decode cX7_proposesFrom 47 = .ok (.aload_n 0, 1) := by decide +kernel
theorem dX7_proposesFrom_48 : decode cX7_proposesFrom 48 = .ok (.getfield 40, 3) := by decide +kernel
theorem dX7_proposesFrom_51 : decode cX7_proposesFrom 51 = .ok (.iconst 0, 1) := by decide +kernel
theorem dX7_proposesFrom_52 : decode cX7_proposesFrom 52 = .ok (.dup2, 1) := by decide +kernel
theorem dX7_proposesFrom_53 : decode cX7_proposesFrom 53 = .ok (.iaload, 1) := by decide +kernel
theorem dX7_proposesFrom_54 : decode cX7_proposesFrom 54 = .ok (.aload_n 0, 1) := by decide +kernel
theorem dX7_proposesFrom_55 : decode cX7_proposesFrom 55 = .ok (.getfield 9, 3) := by decide +kernel
theorem dX7_proposesFrom_58 : decode cX7_proposesFrom 58 = .ok (.iload 4, 2) := by decide +kernel
theorem dX7_proposesFrom_60 : decode cX7_proposesFrom 60 = .ok (.bipush 7, 2) := by decide +kernel
theorem dX7_proposesFrom_62 : decode cX7_proposesFrom 62 = .ok (.iadd, 1) := by decide +kernel
theorem dX7_proposesFrom_63 : decode cX7_proposesFrom 63 = .ok (.iaload, 1) := by decide +kernel
theorem dX7_proposesFrom_64 : decode cX7_proposesFrom 64 = .ok (.isub, 1) := by decide +kernel
theorem dX7_proposesFrom_65 : decode cX7_proposesFrom 65 = .ok (.iastore, 1) := by decide +kernel
theorem dX7_proposesFrom_66 : decode cX7_proposesFrom 66 = .ok (.aload_n 0, 1) := by decide +kernel
theorem dX7_proposesFrom_67 : decode cX7_proposesFrom 67 = .ok (.getfield 9, 3) := by decide +kernel
theorem dX7_proposesFrom_70 : decode cX7_proposesFrom 70 = .ok (.iload 4, 2) := by decide +kernel
theorem dX7_proposesFrom_72 : decode cX7_proposesFrom 72 = .ok (.iaload, 1) := by decide +kernel
theorem dX7_proposesFrom_73 : decode cX7_proposesFrom 73 = .ok (.iconst 1, 1) := by decide +kernel
theorem dX7_proposesFrom_74 : decode cX7_proposesFrom 74 = .ok (.if_icmp .ne 46, 3) := by decide +kernel
theorem dX7_proposesFrom_77 : decode cX7_proposesFrom 77 = .ok (.iconst 1, 1) := by decide +kernel
theorem dX7_proposesFrom_78 : decode cX7_proposesFrom 78 = .ok (.istore 5, 2) := by decide +kernel
theorem dX7_proposesFrom_80 : decode cX7_proposesFrom 80 = .ok (.iload 5, 2) := by decide +kernel
theorem dX7_proposesFrom_82 : decode cX7_proposesFrom 82 = .ok (.aload_n 0, 1) := by decide +kernel
theorem dX7_proposesFrom_83 : decode cX7_proposesFrom 83 = .ok (.getfield 9, 3) := by decide +kernel
theorem dX7_proposesFrom_86 : decode cX7_proposesFrom 86 = .ok (.iload 4, 2) := by decide +kernel
theorem dX7_proposesFrom_88 : decode cX7_proposesFrom 88 = .ok (.iconst 2, 1) := by decide +kernel
theorem dX7_proposesFrom_89 : decode cX7_proposesFrom 89 = .ok (.iadd, 1) := by decide +kernel
theorem dX7_proposesFrom_90 : decode cX7_proposesFrom 90 = .ok (.iaload, 1) := by decide +kernel
theorem dX7_proposesFrom_91 : decode cX7_proposesFrom 91 = .ok (.if_icmp .gt 29, 3) := by decide +kernel
theorem dX7_proposesFrom_94 : decode cX7_proposesFrom 94 = .ok (.aload_n 0, 1) := by decide +kernel
theorem dX7_proposesFrom_95 : decode cX7_proposesFrom 95 = .ok (.getfield 40, 3) := by decide +kernel
theorem dX7_proposesFrom_98 : decode cX7_proposesFrom 98 = .ok (.iconst 0, 1) := by decide +kernel
theorem dX7_proposesFrom_99 : decode cX7_proposesFrom 99 = .ok (.aload_n 0, 1) := by decide +kernel
theorem dX7_proposesFrom_100 : decode cX7_proposesFrom 100 = .ok (.getfield 9, 3) := by decide +kernel
theorem dX7_proposesFrom_103 : decode cX7_proposesFrom 103 = .ok (.iload 4, 2) := by decide +kernel
theorem dX7_proposesFrom_105 : decode cX7_proposesFrom 105 = .ok (.iconst 2, 1) := by decide +kernel
theorem dX7_proposesFrom_106 : decode cX7_proposesFrom 106 = .ok (.iadd, 1) := by decide +kernel
theorem dX7_proposesFrom_107 : decode cX7_proposesFrom 107 = .ok (.iload 5, 2) := by decide +kernel
theorem dX7_proposesFrom_109 : decode cX7_proposesFrom 109 = .ok (.iadd, 1) := by decide +kernel
theorem dX7_proposesFrom_110 : decode cX7_proposesFrom 110 = .ok (.iaload, 1) := by decide +kernel
theorem dX7_proposesFrom_111 : decode cX7_proposesFrom 111 = .ok (.invokestatic 109, 3) := by decide +kernel
theorem dX7_proposesFrom_114 : decode cX7_proposesFrom 114 = .ok (.iinc 5 1, 3) := by decide +kernel
theorem dX7_proposesFrom_117 : decode cX7_proposesFrom 117 = .ok (.goto (-37), 3) := by decide +kernel
theorem dX7_proposesFrom_120 : decode cX7_proposesFrom 120 = .ok (.aload_n 0, 1) := by decide +kernel
theorem dX7_proposesFrom_121 : decode cX7_proposesFrom 121 = .ok (.getfield 9, 3) := by decide +kernel
theorem dX7_proposesFrom_124 : decode cX7_proposesFrom 124 = .ok (.iload 4, 2) := by decide +kernel
theorem dX7_proposesFrom_126 : decode cX7_proposesFrom 126 = .ok (.iaload, 1) := by decide +kernel
theorem dX7_proposesFrom_127 : decode cX7_proposesFrom 127 = .ok (.iconst 2, 1) := by decide +kernel
theorem dX7_proposesFrom_128 : decode cX7_proposesFrom 128 = .ok (.if_icmp .ne 26, 3) := by decide +kernel
theorem dX7_proposesFrom_131 : decode cX7_proposesFrom 131 = .ok (.aload_n 0, 1) := by decide +kernel
theorem dX7_proposesFrom_132 : decode cX7_proposesFrom 132 = .ok (.getfield 40, 3) := by decide +kernel
theorem dX7_proposesFrom_135 : decode cX7_proposesFrom 135 = .ok (.iconst 0, 1) := by decide +kernel
theorem dX7_proposesFrom_136 : decode cX7_proposesFrom 136 = .ok (.dup2, 1) := by decide +kernel
theorem dX7_proposesFrom_137 : decode cX7_proposesFrom 137 = .ok (.iaload, 1) := by decide +kernel
theorem dX7_proposesFrom_138 : decode cX7_proposesFrom 138 = .ok (.aload_n 0, 1) := by decide +kernel
theorem dX7_proposesFrom_139 : decode cX7_proposesFrom 139 = .ok (.getfield 40, 3) := by decide +kernel
theorem dX7_proposesFrom_142 : decode cX7_proposesFrom 142 = .ok (.iconst 0, 1) := by decide +kernel
theorem dX7_proposesFrom_143 : decode cX7_proposesFrom 143 = .ok (.iaload, 1) := by decide +kernel
theorem dX7_proposesFrom_144 : decode cX7_proposesFrom 144 = .ok (.ifCond .le 7, 3) := by decide +kernel
theorem dX7_proposesFrom_147 : decode cX7_proposesFrom 147 = .ok (.iconst 1, 1) := by decide +kernel
theorem dX7_proposesFrom_148 : decode cX7_proposesFrom 148 = .ok (.goto 4, 3) := by decide +kernel
theorem dX7_proposesFrom_151 : decode cX7_proposesFrom 151 = .ok (.iconst 0, 1) := by decide +kernel
theorem dX7_proposesFrom_152 : decode cX7_proposesFrom 152 = .ok (.isub, 1) := by decide +kernel
theorem dX7_proposesFrom_153 : decode cX7_proposesFrom 153 = .ok (.iastore, 1) := by decide +kernel
theorem dX7_proposesFrom_154 : decode cX7_proposesFrom 154 = .ok (.aload_n 0, 1) := by decide +kernel
theorem dX7_proposesFrom_155 : decode cX7_proposesFrom 155 = .ok (.getfield 9, 3) := by decide +kernel
theorem dX7_proposesFrom_158 : decode cX7_proposesFrom 158 = .ok (.iload 4, 2) := by decide +kernel
theorem dX7_proposesFrom_160 : decode cX7_proposesFrom 160 = .ok (.iaload, 1) := by decide +kernel
theorem dX7_proposesFrom_161 : decode cX7_proposesFrom 161 = .ok (.iconst 3, 1) := by decide +kernel
theorem dX7_proposesFrom_162 : decode cX7_proposesFrom 162 = .ok (.if_icmp .ne 14, 3) := by decide +kernel
theorem dX7_proposesFrom_165 : decode cX7_proposesFrom 165 = .ok (.aload_n 0, 1) := by decide +kernel
theorem dX7_proposesFrom_166 : decode cX7_proposesFrom 166 = .ok (.getfield 40, 3) := by decide +kernel
theorem dX7_proposesFrom_169 : decode cX7_proposesFrom 169 = .ok (.iconst 0, 1) := by decide +kernel
theorem dX7_proposesFrom_170 : decode cX7_proposesFrom 170 = .ok (.invokestatic 142, 3) := by decide +kernel
theorem dX7_proposesFrom_173 : decode cX7_proposesFrom 173 = .ok (.goto 4, 3) := by decide +kernel
theorem dX7_proposesFrom_176 : decode cX7_proposesFrom 176 = .ok (.iconst 0, 1) := by decide +kernel
theorem dX7_proposesFrom_177 : decode cX7_proposesFrom 177 = .ok (.istore 5, 2) := by decide +kernel
theorem dX7_proposesFrom_179 : decode cX7_proposesFrom 179 = .ok (.iload 5, 2) := by decide +kernel
theorem dX7_proposesFrom_181 : decode cX7_proposesFrom 181 = .ok (.ifCond .ne 8, 3) := by decide +kernel
theorem dX7_proposesFrom_184 : decode cX7_proposesFrom 184 = .ok (.aload_n 0, 1) := by decide +kernel
theorem dX7_proposesFrom_185 : decode cX7_proposesFrom 185 = .ok (.iload_n 1, 1) := by decide +kernel
theorem dX7_proposesFrom_186 : decode cX7_proposesFrom 186 = .ok (.invokevirtual 185, 3) := by decide +kernel
theorem dX7_proposesFrom_189 : decode cX7_proposesFrom 189 = .ok (.iconst 0, 1) := by decide +kernel
theorem dX7_proposesFrom_190 : decode cX7_proposesFrom 190 = .ok (.istore 6, 2) := by decide +kernel
theorem dX7_proposesFrom_192 : decode cX7_proposesFrom 192 = .ok (.iload 6, 2) := by decide +kernel
theorem dX7_proposesFrom_194 : decode cX7_proposesFrom 194 = .ok (.iconst 5, 1) := by decide +kernel
theorem dX7_proposesFrom_195 : decode cX7_proposesFrom 195 = .ok (.if_icmp .ge 31, 3) := by decide +kernel
theorem dX7_proposesFrom_198 : decode cX7_proposesFrom 198 = .ok (.iload 5, 2) := by decide +kernel
theorem dX7_proposesFrom_200 : decode cX7_proposesFrom 200 = .ok (.ifCond .le 26, 3) := by decide +kernel
theorem dX7_proposesFrom_203 : decode cX7_proposesFrom 203 = .ok (.aload_n 0, 1) := by decide +kernel
theorem dX7_proposesFrom_204 : decode cX7_proposesFrom 204 = .ok (.getfield 40, 3) := by decide +kernel
theorem dX7_proposesFrom_207 : decode cX7_proposesFrom 207 = .ok (.iload 5, 2) := by decide +kernel
theorem dX7_proposesFrom_209 : decode cX7_proposesFrom 209 = .ok (.iload 6, 2) := by decide +kernel
theorem dX7_proposesFrom_211 : decode cX7_proposesFrom 211 = .ok (.invokestatic 146, 3) := by decide +kernel
theorem dX7_proposesFrom_214 : decode cX7_proposesFrom 214 = .ok (.iastore, 1) := by decide +kernel
theorem dX7_proposesFrom_215 : decode cX7_proposesFrom 215 = .ok (.aload_n 0, 1) := by decide +kernel
theorem dX7_proposesFrom_216 : decode cX7_proposesFrom 216 = .ok (.iload_n 1, 1) := by decide +kernel
theorem dX7_proposesFrom_217 : decode cX7_proposesFrom 217 = .ok (.invokevirtual 185, 3) := by decide +kernel
theorem dX7_proposesFrom_220 : decode cX7_proposesFrom 220 = .ok (.iinc 6 1, 3) := by decide +kernel
theorem dX7_proposesFrom_223 : decode cX7_proposesFrom 223 = .ok (.goto (-31), 3) := by decide +kernel
theorem dX7_proposesFrom_226 : decode cX7_proposesFrom 226 = .ok (.return_, 1) := by decide +kernel
def rX7_proposesFrom : Room := { frames := 5, cells := 0, slots := 0, locals := 119 }
theorem fX7_proposesFrom_9 : Cond.fieldLink RX7 9 (TX7 0).1 (TX7 0).2.1 (TX7 0).2.2.1 ∈ wsX7_proposesFrom := by decide +kernel
theorem fX7_proposesFrom_40 : Cond.fieldLink RX7 40 (TX7 15).1 (TX7 15).2.1 (TX7 15).2.2.1 ∈ wsX7_proposesFrom := by decide +kernel
theorem iX7_proposesFrom_6 : ∀ w ∈ u_ws RX7 TX7 19, w ∈ wsX7_proposesFrom := by decide +kernel
set_option maxRecDepth 100000 in
set_option maxHeartbeats 4000000 in
theorem tX7_proposesFrom_226 {p : Program} {l : Launch} {e : Env} {s : State} {m : MethodId} {args : Array Value} {below : List Frame} {meth : Method} {c : Code} {a : Nat → Nat} {cy : Nat → ClassId} {D : va_G} {tV : Nat} {sa : Nat → Nat} (C : zC p l s m args meth c cX7_proposesFrom 7 wsX7_proposesFrom RX7 a cy D tV sa) (hr : meth.sig.returnType = none) {k0 : Nat} (hk0 : zk k0 = 6) {P : Sto → Prop} : ∀ (σ : Sto), vX7_proposesFrom_226 k0 P σ → zX p l e rX7_proposesFrom s m args below meth c 7 a cy D (MQ below (fun _ => zQo a cy D s.heap.size (zPV P)) args s 0 0 (zA a s.heap.size)) 0 0 σ 226 [] [] := by
  intro σ hq
  unfold vX7_proposesFrom_226 at hq
  exact zr_vret C hr dX7_proposesFrom_226 ⟨rfl, hq⟩
set_option maxRecDepth 100000 in
set_option maxHeartbeats 4000000 in
theorem tX7_proposesFrom_192 {p : Program} {l : Launch} {e : Env} {s : State} {m : MethodId} {args : Array Value} {below : List Frame} {meth : Method} {c : Code} {a : Nat → Nat} {cy : Nat → ClassId} {D : va_G} {tV : Nat} {sa : Nat → Nat} (C : zC p l s m args meth c cX7_proposesFrom 7 wsX7_proposesFrom RX7 a cy D tV sa) (hr : meth.sig.returnType = none) {k0 : Nat} (hk0 : zk k0 = 6) {P : Sto → Prop} : ∀ (n : Nat) (x1 x5 x6 : Int) (σ : Sto), vX7_proposesFrom_192 k0 P n x1 x5 x6 σ → zX p l e rX7_proposesFrom s m args below meth c 7 a cy D (MQ below (fun _ => zQo a cy D s.heap.size (zPV P)) args s 0 0 (zA a s.heap.size)) 0 0 σ 192 [(0, .ref (a k0)), (1, .int (zI x1)), (5, .int (zI x5)), (6, .int (zI x6))] [] := by
  intro n
  induction n with
  | zero => intro x1 x5 x6 σ hq; exact hq.elim
  | succ n ih =>
    intro x1 x5 x6 σ hq
    have hK192 := ih
    have hq : bX7_proposesFrom_192 k0 P (vX7_proposesFrom_192 k0 P n) x1 x5 x6 σ := hq
    unfold bX7_proposesFrom_192 at hq
    refine zr_iload C dX7_proposesFrom_192 (k := 3) rfl rfl ?_
    refine zr_iconst C dX7_proposesFrom_194 rfl ?_
    obtain ⟨h0, hq⟩ := hq
    refine zr_icmp_ge C (tgt := 226) dX7_proposesFrom_195 (by decide) h0 (zRl rfl) rfl (fun z => ?_) (fun z => ?_)
    · have hq := hq.1 z
      exact zr_sub C [] rfl (tX7_proposesFrom_226 C hr hk0 _ hq)
    · have hq := hq.2 z
      refine zr_iload C dX7_proposesFrom_198 (k := 2) rfl rfl ?_
      obtain ⟨h0, hq⟩ := hq
      refine zr_if_le C (tgt := 226) dX7_proposesFrom_200 (by decide) h0 rfl (fun z => ?_) (fun z => ?_)
      · have hq := hq.1 z
        exact zr_sub C [] rfl (tX7_proposesFrom_226 C hr hk0 _ hq)
      · have hq := hq.2 z
        refine zr_aload_n C dX7_proposesFrom_203 rfl (k := 0) rfl rfl ?_
        refine zr_get C (zE_6 hk0) (zk_lt hk0 (by decide)) (Cn := RX7) (T := TX7) (N := 19) rfl iX7_proposesFrom_6 15 (by decide) fX7_proposesFrom_40 rfl dX7_proposesFrom_204 rfl ?_
        refine zr_iload C dX7_proposesFrom_207 (k := 2) rfl rfl ?_
        refine zr_iload C dX7_proposesFrom_209 (k := 3) rfl rfl ?_
        refine zr_calli (zrunS C (st := [.int (zI x5), .ref (a (k0 + 11))]) (mX7_vowel  hq) (va_cwS 1 C.2.2.2.2.1 gX7_proposesFrom_X7_vowel rfl rfl rfl (by decide +kernel) ⟨Nat.le_of_ble_eq_true rfl, Nat.le_of_ble_eq_true rfl⟩) rfl rfl (Nat.le_of_ble_eq_true rfl) dX7_proposesFrom_211 ⟨Nat.zero_le _, Nat.zero_le _⟩) rfl (fun r7 s7 hq => ?_)
        obtain ⟨h0, h1, hq⟩ := hq
        refine zr_iast C (zf_6_stem hk0) h0 h1 dX7_proposesFrom_214 rfl (fun s8 es8 => ?_)
        have hq := hq s8 es8
        refine zr_aload_n C dX7_proposesFrom_215 rfl (k := 0) rfl rfl ?_
        refine zr_iload_n C dX7_proposesFrom_216 rfl (k := 1) rfl rfl ?_
        refine zr_callv (zrunV C (st := []) (mX7_proposes hk0 hq) (cwV 1 C.2.2.2.2.1 gX7_proposesFrom_X7_proposes rfl rfl rfl (by decide +kernel) ⟨Nat.le_of_ble_eq_true rfl, Nat.le_of_ble_eq_true rfl⟩) (zE_6 hk0) (zk_lt hk0 (by decide)) (T := TX7) (N := 19) rfl rfl rfl (Nat.le_of_ble_eq_true rfl) dX7_proposesFrom_217 ⟨Nat.zero_le _, Nat.zero_le _⟩) rfl (fun s9 hq => ?_)
        refine zr_iinc C (L' := [(6, .int (zI (x6 + 1))), (0, .ref (a k0)), (1, .int (zI x1)), (5, .int (zI x5))]) dX7_proposesFrom_220 (k := 3) rfl (by decide) rfl rfl ?_
        refine zr_goto C (tgt := 192) dX7_proposesFrom_223 (by decide) ?_
        exact zr_sub C [1, 2, 3, 0] rfl (hK192 _ _ _ _ hq)
set_option maxRecDepth 100000 in
set_option maxHeartbeats 4000000 in
theorem tX7_proposesFrom_189 {p : Program} {l : Launch} {e : Env} {s : State} {m : MethodId} {args : Array Value} {below : List Frame} {meth : Method} {c : Code} {a : Nat → Nat} {cy : Nat → ClassId} {D : va_G} {tV : Nat} {sa : Nat → Nat} (C : zC p l s m args meth c cX7_proposesFrom 7 wsX7_proposesFrom RX7 a cy D tV sa) (hr : meth.sig.returnType = none) {k0 : Nat} (hk0 : zk k0 = 6) {P : Sto → Prop} : ∀ (x1 x5 : Int) (σ : Sto), vX7_proposesFrom_189 k0 P x1 x5 σ → zX p l e rX7_proposesFrom s m args below meth c 7 a cy D (MQ below (fun _ => zQo a cy D s.heap.size (zPV P)) args s 0 0 (zA a s.heap.size)) 0 0 σ 189 [(0, .ref (a k0)), (1, .int (zI x1)), (5, .int (zI x5))] [] := by
  intro x1 x5 σ hq
  unfold vX7_proposesFrom_189 at hq
  refine zr_iconst C dX7_proposesFrom_189 rfl ?_
  refine zr_istore C (L' := [(6, .int (zI 0)), (0, .ref (a k0)), (1, .int (zI x1)), (5, .int (zI x5))]) dX7_proposesFrom_190 (by decide) rfl rfl ?_
  obtain ⟨n, hq⟩ := hq
  exact zr_sub C [1, 2, 3, 0] rfl (tX7_proposesFrom_192 C hr hk0 n _ _ _ _ hq)
set_option maxRecDepth 100000 in
set_option maxHeartbeats 4000000 in
theorem tX7_proposesFrom_177 {p : Program} {l : Launch} {e : Env} {s : State} {m : MethodId} {args : Array Value} {below : List Frame} {meth : Method} {c : Code} {a : Nat → Nat} {cy : Nat → ClassId} {D : va_G} {tV : Nat} {sa : Nat → Nat} (C : zC p l s m args meth c cX7_proposesFrom 7 wsX7_proposesFrom RX7 a cy D tV sa) (hr : meth.sig.returnType = none) {k0 : Nat} (hk0 : zk k0 = 6) {P : Sto → Prop} : ∀ (x1 y0 : Int) (σ : Sto), vX7_proposesFrom_177 k0 P x1 y0 σ → zX p l e rX7_proposesFrom s m args below meth c 7 a cy D (MQ below (fun _ => zQo a cy D s.heap.size (zPV P)) args s 0 0 (zA a s.heap.size)) 0 0 σ 177 [(0, .ref (a k0)), (1, .int (zI x1))] [.int (zI y0)] := by
  intro x1 y0 σ hq
  unfold vX7_proposesFrom_177 at hq
  refine zr_istore C (L' := [(5, .int (zI y0)), (0, .ref (a k0)), (1, .int (zI x1))]) dX7_proposesFrom_177 (by decide) rfl rfl ?_
  refine zr_iload C dX7_proposesFrom_179 (k := 0) rfl rfl ?_
  obtain ⟨h0, hq⟩ := hq
  refine zr_if_ne C (tgt := 189) dX7_proposesFrom_181 (by decide) h0 rfl (fun z => ?_) (fun z => ?_)
  · have hq := hq.1 z
    exact zr_sub C [1, 2, 0] rfl (tX7_proposesFrom_189 C hr hk0 _ _ _ hq)
  · have hq := hq.2 z
    refine zr_aload_n C dX7_proposesFrom_184 rfl (k := 1) rfl rfl ?_
    refine zr_iload_n C dX7_proposesFrom_185 rfl (k := 2) rfl rfl ?_
    refine zr_callv (zrunV C (st := []) (mX7_proposes hk0 hq) (cwV 1 C.2.2.2.2.1 gX7_proposesFrom_X7_proposes rfl rfl rfl (by decide +kernel) ⟨Nat.le_of_ble_eq_true rfl, Nat.le_of_ble_eq_true rfl⟩) (zE_6 hk0) (zk_lt hk0 (by decide)) (T := TX7) (N := 19) rfl rfl rfl (Nat.le_of_ble_eq_true rfl) dX7_proposesFrom_186 ⟨Nat.zero_le _, Nat.zero_le _⟩) rfl (fun s10 hq => ?_)
    exact zr_sub C [1, 2, 0] rfl (tX7_proposesFrom_189 C hr hk0 _ _ _ hq)
set_option maxRecDepth 100000 in
set_option maxHeartbeats 4000000 in
theorem tX7_proposesFrom_154 {p : Program} {l : Launch} {e : Env} {s : State} {m : MethodId} {args : Array Value} {below : List Frame} {meth : Method} {c : Code} {a : Nat → Nat} {cy : Nat → ClassId} {D : va_G} {tV : Nat} {sa : Nat → Nat} (C : zC p l s m args meth c cX7_proposesFrom 7 wsX7_proposesFrom RX7 a cy D tV sa) (hr : meth.sig.returnType = none) {k0 : Nat} (hk0 : zk k0 = 6) {P : Sto → Prop} : ∀ (x1 x4 : Int) (σ : Sto), vX7_proposesFrom_154 k0 P x1 x4 σ → zX p l e rX7_proposesFrom s m args below meth c 7 a cy D (MQ below (fun _ => zQo a cy D s.heap.size (zPV P)) args s 0 0 (zA a s.heap.size)) 0 0 σ 154 [(0, .ref (a k0)), (1, .int (zI x1)), (4, .int (zI x4))] [] := by
  intro x1 x4 σ hq
  unfold vX7_proposesFrom_154 at hq
  refine zr_aload_n C dX7_proposesFrom_154 rfl (k := 0) rfl rfl ?_
  refine zr_get C (zE_6 hk0) (zk_lt hk0 (by decide)) (Cn := RX7) (T := TX7) (N := 19) rfl iX7_proposesFrom_6 0 (by decide) fX7_proposesFrom_9 rfl dX7_proposesFrom_155 rfl ?_
  refine zr_iload C dX7_proposesFrom_158 (k := 2) rfl rfl ?_
  obtain ⟨h0, h1, hq⟩ := hq
  refine zr_iald C (zf_6_s hk0) h0 h1 dX7_proposesFrom_160 rfl ?_
  refine zr_iconst C dX7_proposesFrom_161 rfl ?_
  obtain ⟨h0, hq⟩ := hq
  refine zr_icmp_ne C (tgt := 176) dX7_proposesFrom_162 (by decide) h0 (zRl rfl) rfl (fun z => ?_) (fun z => ?_)
  · have hq := hq.1 z
    refine zr_iconst C dX7_proposesFrom_176 rfl ?_
    exact zr_sub C [0, 1] rfl (tX7_proposesFrom_177 C hr hk0 _ _ _ hq)
  · have hq := hq.2 z
    refine zr_aload_n C dX7_proposesFrom_165 rfl (k := 0) rfl rfl ?_
    refine zr_get C (zE_6 hk0) (zk_lt hk0 (by decide)) (Cn := RX7) (T := TX7) (N := 19) rfl iX7_proposesFrom_6 15 (by decide) fX7_proposesFrom_40 rfl dX7_proposesFrom_166 rfl ?_
    refine zr_iconst C dX7_proposesFrom_169 rfl ?_
    refine zr_calli (zrunS C (st := []) (mX7_lastVowel (zf_6_stem hk0) hq) (va_cwS 2 C.2.2.2.2.1 gX7_proposesFrom_X7_lastVowel rfl rfl rfl (by decide +kernel) ⟨Nat.le_of_ble_eq_true rfl, Nat.le_of_ble_eq_true rfl⟩) rfl rfl (Nat.le_of_ble_eq_true rfl) dX7_proposesFrom_170 ⟨Nat.zero_le _, Nat.zero_le _⟩) rfl (fun r11 s11 hq => ?_)
    refine zr_goto C (tgt := 177) dX7_proposesFrom_173 (by decide) ?_
    exact zr_sub C [0, 1] rfl (tX7_proposesFrom_177 C hr hk0 _ _ _ hq)
set_option maxRecDepth 100000 in
set_option maxHeartbeats 4000000 in
theorem tX7_proposesFrom_152 {p : Program} {l : Launch} {e : Env} {s : State} {m : MethodId} {args : Array Value} {below : List Frame} {meth : Method} {c : Code} {a : Nat → Nat} {cy : Nat → ClassId} {D : va_G} {tV : Nat} {sa : Nat → Nat} (C : zC p l s m args meth c cX7_proposesFrom 7 wsX7_proposesFrom RX7 a cy D tV sa) (hr : meth.sig.returnType = none) {k0 : Nat} (hk0 : zk k0 = 6) {P : Sto → Prop} : ∀ (x1 x4 y0 y1 y2 : Int) (σ : Sto), vX7_proposesFrom_152 k0 P x1 x4 y0 y1 y2 σ → zX p l e rX7_proposesFrom s m args below meth c 7 a cy D (MQ below (fun _ => zQo a cy D s.heap.size (zPV P)) args s 0 0 (zA a s.heap.size)) 0 0 σ 152 [(0, .ref (a k0)), (1, .int (zI x1)), (4, .int (zI x4))] [.int (zI y0), .int (zI y1), .int (zI y2), .ref (a (k0 + 11))] := by
  intro x1 x4 y0 y1 y2 σ hq
  unfold vX7_proposesFrom_152 at hq
  refine zr_isub C dX7_proposesFrom_152 rfl ?_
  obtain ⟨h0, h1, hq⟩ := hq
  refine zr_iast C (zf_6_stem hk0) h0 h1 dX7_proposesFrom_153 rfl (fun s12 es12 => ?_)
  have hq := hq s12 es12
  exact zr_sub C [0, 1, 2] rfl (tX7_proposesFrom_154 C hr hk0 _ _ _ hq)
set_option maxRecDepth 100000 in
set_option maxHeartbeats 4000000 in
theorem tX7_proposesFrom_120 {p : Program} {l : Launch} {e : Env} {s : State} {m : MethodId} {args : Array Value} {below : List Frame} {meth : Method} {c : Code} {a : Nat → Nat} {cy : Nat → ClassId} {D : va_G} {tV : Nat} {sa : Nat → Nat} (C : zC p l s m args meth c cX7_proposesFrom 7 wsX7_proposesFrom RX7 a cy D tV sa) (hr : meth.sig.returnType = none) {k0 : Nat} (hk0 : zk k0 = 6) {P : Sto → Prop} : ∀ (x1 x4 : Int) (σ : Sto), vX7_proposesFrom_120 k0 P x1 x4 σ → zX p l e rX7_proposesFrom s m args below meth c 7 a cy D (MQ below (fun _ => zQo a cy D s.heap.size (zPV P)) args s 0 0 (zA a s.heap.size)) 0 0 σ 120 [(0, .ref (a k0)), (1, .int (zI x1)), (4, .int (zI x4))] [] := by
  intro x1 x4 σ hq
  unfold vX7_proposesFrom_120 at hq
  refine zr_aload_n C dX7_proposesFrom_120 rfl (k := 0) rfl rfl ?_
  refine zr_get C (zE_6 hk0) (zk_lt hk0 (by decide)) (Cn := RX7) (T := TX7) (N := 19) rfl iX7_proposesFrom_6 0 (by decide) fX7_proposesFrom_9 rfl dX7_proposesFrom_121 rfl ?_
  refine zr_iload C dX7_proposesFrom_124 (k := 2) rfl rfl ?_
  obtain ⟨h0, h1, hq⟩ := hq
  refine zr_iald C (zf_6_s hk0) h0 h1 dX7_proposesFrom_126 rfl ?_
  refine zr_iconst C dX7_proposesFrom_127 rfl ?_
  obtain ⟨h0, hq⟩ := hq
  refine zr_icmp_ne C (tgt := 154) dX7_proposesFrom_128 (by decide) h0 (zRl rfl) rfl (fun z => ?_) (fun z => ?_)
  · have hq := hq.1 z
    exact zr_sub C [0, 1, 2] rfl (tX7_proposesFrom_154 C hr hk0 _ _ _ hq)
  · have hq := hq.2 z
    refine zr_aload_n C dX7_proposesFrom_131 rfl (k := 0) rfl rfl ?_
    refine zr_get C (zE_6 hk0) (zk_lt hk0 (by decide)) (Cn := RX7) (T := TX7) (N := 19) rfl iX7_proposesFrom_6 15 (by decide) fX7_proposesFrom_40 rfl dX7_proposesFrom_132 rfl ?_
    refine zr_iconst C dX7_proposesFrom_135 rfl ?_
    refine zr_dup2 C dX7_proposesFrom_136 rfl rfl rfl ?_
    obtain ⟨h0, hq⟩ := hq
    refine zr_iald C (zf_6_stem hk0) (by decide) h0 dX7_proposesFrom_137 rfl ?_
    refine zr_aload_n C dX7_proposesFrom_138 rfl (k := 0) rfl rfl ?_
    refine zr_get C (zE_6 hk0) (zk_lt hk0 (by decide)) (Cn := RX7) (T := TX7) (N := 19) rfl iX7_proposesFrom_6 15 (by decide) fX7_proposesFrom_40 rfl dX7_proposesFrom_139 rfl ?_
    refine zr_iconst C dX7_proposesFrom_142 rfl ?_
    obtain ⟨h0, hq⟩ := hq
    refine zr_iald C (zf_6_stem hk0) (by decide) h0 dX7_proposesFrom_143 rfl ?_
    obtain ⟨h0, hq⟩ := hq
    refine zr_if_le C (tgt := 151) dX7_proposesFrom_144 (by decide) h0 rfl (fun z => ?_) (fun z => ?_)
    · have hq := hq.1 z
      refine zr_iconst C dX7_proposesFrom_151 rfl ?_
      exact zr_sub C [0, 1, 2] rfl (tX7_proposesFrom_152 C hr hk0 _ _ _ _ _ _ hq)
    · have hq := hq.2 z
      refine zr_iconst C dX7_proposesFrom_147 rfl ?_
      refine zr_goto C (tgt := 152) dX7_proposesFrom_148 (by decide) ?_
      exact zr_sub C [0, 1, 2] rfl (tX7_proposesFrom_152 C hr hk0 _ _ _ _ _ _ hq)
set_option maxRecDepth 100000 in
set_option maxHeartbeats 4000000 in
theorem tX7_proposesFrom_80 {p : Program} {l : Launch} {e : Env} {s : State} {m : MethodId} {args : Array Value} {below : List Frame} {meth : Method} {c : Code} {a : Nat → Nat} {cy : Nat → ClassId} {D : va_G} {tV : Nat} {sa : Nat → Nat} (C : zC p l s m args meth c cX7_proposesFrom 7 wsX7_proposesFrom RX7 a cy D tV sa) (hr : meth.sig.returnType = none) {k0 : Nat} (hk0 : zk k0 = 6) {P : Sto → Prop} : ∀ (n : Nat) (x1 x4 x5 : Int) (σ : Sto), vX7_proposesFrom_80 k0 P n x1 x4 x5 σ → zX p l e rX7_proposesFrom s m args below meth c 7 a cy D (MQ below (fun _ => zQo a cy D s.heap.size (zPV P)) args s 0 0 (zA a s.heap.size)) 0 0 σ 80 [(0, .ref (a k0)), (1, .int (zI x1)), (4, .int (zI x4)), (5, .int (zI x5))] [] := by
  intro n
  induction n with
  | zero => intro x1 x4 x5 σ hq; exact hq.elim
  | succ n ih =>
    intro x1 x4 x5 σ hq
    have hK80 := ih
    have hq : bX7_proposesFrom_80 k0 P (vX7_proposesFrom_80 k0 P n) x1 x4 x5 σ := hq
    unfold bX7_proposesFrom_80 at hq
    refine zr_iload C dX7_proposesFrom_80 (k := 3) rfl rfl ?_
    refine zr_aload_n C dX7_proposesFrom_82 rfl (k := 0) rfl rfl ?_
    refine zr_get C (zE_6 hk0) (zk_lt hk0 (by decide)) (Cn := RX7) (T := TX7) (N := 19) rfl iX7_proposesFrom_6 0 (by decide) fX7_proposesFrom_9 rfl dX7_proposesFrom_83 rfl ?_
    refine zr_iload C dX7_proposesFrom_86 (k := 2) rfl rfl ?_
    refine zr_iconst C dX7_proposesFrom_88 rfl ?_
    refine zr_iadd C dX7_proposesFrom_89 rfl ?_
    obtain ⟨h0, h1, hq⟩ := hq
    refine zr_iald C (zf_6_s hk0) h0 h1 dX7_proposesFrom_90 rfl ?_
    obtain ⟨h0, h1, hq⟩ := hq
    refine zr_icmp_gt C (tgt := 120) dX7_proposesFrom_91 (by decide) h0 h1 rfl (fun z => ?_) (fun z => ?_)
    · have hq := hq.1 z
      exact zr_sub C [0, 1, 2] rfl (tX7_proposesFrom_120 C hr hk0 _ _ _ hq)
    · have hq := hq.2 z
      refine zr_aload_n C dX7_proposesFrom_94 rfl (k := 0) rfl rfl ?_
      refine zr_get C (zE_6 hk0) (zk_lt hk0 (by decide)) (Cn := RX7) (T := TX7) (N := 19) rfl iX7_proposesFrom_6 15 (by decide) fX7_proposesFrom_40 rfl dX7_proposesFrom_95 rfl ?_
      refine zr_iconst C dX7_proposesFrom_98 rfl ?_
      refine zr_aload_n C dX7_proposesFrom_99 rfl (k := 0) rfl rfl ?_
      refine zr_get C (zE_6 hk0) (zk_lt hk0 (by decide)) (Cn := RX7) (T := TX7) (N := 19) rfl iX7_proposesFrom_6 0 (by decide) fX7_proposesFrom_9 rfl dX7_proposesFrom_100 rfl ?_
      refine zr_iload C dX7_proposesFrom_103 (k := 2) rfl rfl ?_
      refine zr_iconst C dX7_proposesFrom_105 rfl ?_
      refine zr_iadd C dX7_proposesFrom_106 rfl ?_
      refine zr_iload C dX7_proposesFrom_107 (k := 3) rfl rfl ?_
      refine zr_iadd C dX7_proposesFrom_109 rfl ?_
      obtain ⟨h0, h1, hq⟩ := hq
      refine zr_iald C (zf_6_s hk0) h0 h1 dX7_proposesFrom_110 rfl ?_
      refine zr_callv (zrunS C (st := []) (mX7_put (zf_6_stem hk0) hq) (va_cwS 3 C.2.2.2.2.1 gX7_proposesFrom_X7_put rfl rfl rfl (by decide +kernel) ⟨Nat.le_of_ble_eq_true rfl, Nat.le_of_ble_eq_true rfl⟩) rfl rfl (Nat.le_of_ble_eq_true rfl) dX7_proposesFrom_111 ⟨Nat.zero_le _, Nat.zero_le _⟩) rfl (fun s13 hq => ?_)
      refine zr_iinc C (L' := [(5, .int (zI (x5 + 1))), (0, .ref (a k0)), (1, .int (zI x1)), (4, .int (zI x4))]) dX7_proposesFrom_114 (k := 3) rfl (by decide) rfl rfl ?_
      refine zr_goto C (tgt := 80) dX7_proposesFrom_117 (by decide) ?_
      exact zr_sub C [1, 2, 3, 0] rfl (hK80 _ _ _ _ hq)
set_option maxRecDepth 100000 in
set_option maxHeartbeats 4000000 in
theorem mX7_proposesFrom {l : Launch} {a : Nat → Nat} {cy : Nat → ClassId} {D : va_G} {tV : Nat} {sa : Nat → Nat} {P : Sto → Prop} {σ : Sto} {k0 : Nat} {x1 : Int} {x2 : Int} {x3 : Int} (hk0 : zk k0 = 6) (hq : vX7_proposesFrom k0 x1 x2 x3 P σ) : zM l yX7_proposesFrom wsX7_proposesFrom rX7_proposesFrom a cy D tV sa [.ref (a k0), .int (zI x1), .int (zI x2), .int (zI x3)] σ (zPV P) :=
  zM_of (cc := cX7_proposesFrom) (maxL := 7) (ret := none) (by decide) rfl (Nat.le_of_ble_eq_true rfl) (L0 := [(0, .ref (a k0)), (1, .int (zI x1)), (2, .int (zI x2)), (3, .int (zI x3))]) rfl (fun p e s m args below meth c C hr => by
  unfold vX7_proposesFrom at hq
  refine zr_iload_n C dX7_proposesFrom_0 rfl (k := 1) rfl rfl ?_
  refine zr_iload_n C dX7_proposesFrom_1 rfl (k := 2) rfl rfl ?_
  refine zr_calli (zrunS C (st := []) (mX7_cellAt  hq) (va_cwS 2 C.2.2.2.2.1 gX7_proposesFrom_X7_cellAt rfl rfl rfl (by decide +kernel) ⟨Nat.le_of_ble_eq_true rfl, Nat.le_of_ble_eq_true rfl⟩) rfl rfl (Nat.le_of_ble_eq_true rfl) dX7_proposesFrom_2 ⟨Nat.zero_le _, Nat.zero_le _⟩) rfl (fun r1 s1 hq => ?_)
  refine zr_istore C (L' := [(4, .int (zI r1)), (0, .ref (a k0)), (1, .int (zI x1)), (2, .int (zI x2)), (3, .int (zI x3))]) dX7_proposesFrom_5 (by decide) rfl rfl ?_
  refine zr_aload_n C dX7_proposesFrom_7 rfl (k := 1) rfl rfl ?_
  refine zr_get C (zE_6 hk0) (zk_lt hk0 (by decide)) (Cn := RX7) (T := TX7) (N := 19) rfl iX7_proposesFrom_6 0 (by decide) fX7_proposesFrom_9 rfl dX7_proposesFrom_8 rfl ?_
  refine zr_iload_n C dX7_proposesFrom_11 rfl (k := 4) rfl rfl ?_
  refine zr_calli (zrunS C (st := [.ref (a (k0 + 1))]) (mX7_wordAt  hq) (va_cwS 1 C.2.2.2.2.1 gX7_proposesFrom_X7_wordAt rfl rfl rfl (by decide +kernel) ⟨Nat.le_of_ble_eq_true rfl, Nat.le_of_ble_eq_true rfl⟩) rfl rfl (Nat.le_of_ble_eq_true rfl) dX7_proposesFrom_12 ⟨Nat.zero_le _, Nat.zero_le _⟩) rfl (fun r2 s2 hq => ?_)
  refine zr_aload_n C dX7_proposesFrom_15 rfl (k := 1) rfl rfl ?_
  refine zr_get C (zE_6 hk0) (zk_lt hk0 (by decide)) (Cn := RX7) (T := TX7) (N := 19) rfl iX7_proposesFrom_6 0 (by decide) fX7_proposesFrom_9 rfl dX7_proposesFrom_16 rfl ?_
  refine zr_iload C dX7_proposesFrom_19 (k := 0) rfl rfl ?_
  refine zr_bipush C dX7_proposesFrom_21 (by decide) rfl ?_
  refine zr_iadd C dX7_proposesFrom_23 rfl ?_
  refine zr_calli (zrunS C (st := []) (mX7_endsIn (zf_6_s hk0) (zf_6_s hk0) hq) (va_cwS 4 C.2.2.2.2.1 gX7_proposesFrom_X7_endsIn rfl rfl rfl (by decide +kernel) ⟨Nat.le_of_ble_eq_true rfl, Nat.le_of_ble_eq_true rfl⟩) rfl rfl (Nat.le_of_ble_eq_true rfl) dX7_proposesFrom_24 ⟨Nat.zero_le _, Nat.zero_le _⟩) rfl (fun r3 s3 hq => ?_)
  obtain ⟨h0, hq⟩ := hq
  refine zr_if_ne C (tgt := 31) dX7_proposesFrom_27 (by decide) h0 rfl (fun z => ?_) (fun z => ?_)
  · have hq := hq.1 z
    refine zr_aload_n C dX7_proposesFrom_31 rfl (k := 1) rfl rfl ?_
    refine zr_get C (zE_6 hk0) (zk_lt hk0 (by decide)) (Cn := RX7) (T := TX7) (N := 19) rfl iX7_proposesFrom_6 0 (by decide) fX7_proposesFrom_9 rfl dX7_proposesFrom_32 rfl ?_
    refine zr_iload_n C dX7_proposesFrom_35 rfl (k := 4) rfl rfl ?_
    refine zr_calli (zrunS C (st := [.ref (a (k0 + 1))]) (mX7_wordAt  hq) (va_cwS 1 C.2.2.2.2.1 gX7_proposesFrom_X7_wordAt rfl rfl rfl (by decide +kernel) ⟨Nat.le_of_ble_eq_true rfl, Nat.le_of_ble_eq_true rfl⟩) rfl rfl (Nat.le_of_ble_eq_true rfl) dX7_proposesFrom_36 ⟨Nat.zero_le _, Nat.zero_le _⟩) rfl (fun r4 s4 hq => ?_)
    refine zr_aload_n C dX7_proposesFrom_39 rfl (k := 1) rfl rfl ?_
    refine zr_get C (zE_6 hk0) (zk_lt hk0 (by decide)) (Cn := RX7) (T := TX7) (N := 19) rfl iX7_proposesFrom_6 15 (by decide) fX7_proposesFrom_40 rfl dX7_proposesFrom_40 rfl ?_
    refine zr_iconst C dX7_proposesFrom_43 rfl ?_
    refine zr_callv (zrunS C (st := []) (mX7_copy (zf_6_s hk0) (zf_6_stem hk0) hq) (va_cwS 4 C.2.2.2.2.1 gX7_proposesFrom_X7_copy rfl rfl rfl (by decide +kernel) ⟨Nat.le_of_ble_eq_true rfl, Nat.le_of_ble_eq_true rfl⟩) rfl rfl (Nat.le_of_ble_eq_true rfl) dX7_proposesFrom_44 ⟨Nat.zero_le _, Nat.zero_le _⟩) rfl (fun s5 hq => ?_)
    refine zr_aload_n C dX7_proposesFrom_47 rfl (k := 1) rfl rfl ?_
    refine zr_get C (zE_6 hk0) (zk_lt hk0 (by decide)) (Cn := RX7) (T := TX7) (N := 19) rfl iX7_proposesFrom_6 15 (by decide) fX7_proposesFrom_40 rfl dX7_proposesFrom_48 rfl ?_
    refine zr_iconst C dX7_proposesFrom_51 rfl ?_
    refine zr_dup2 C dX7_proposesFrom_52 rfl rfl rfl ?_
    obtain ⟨h0, hq⟩ := hq
    refine zr_iald C (zf_6_stem hk0) (by decide) h0 dX7_proposesFrom_53 rfl ?_
    refine zr_aload_n C dX7_proposesFrom_54 rfl (k := 1) rfl rfl ?_
    refine zr_get C (zE_6 hk0) (zk_lt hk0 (by decide)) (Cn := RX7) (T := TX7) (N := 19) rfl iX7_proposesFrom_6 0 (by decide) fX7_proposesFrom_9 rfl dX7_proposesFrom_55 rfl ?_
    refine zr_iload C dX7_proposesFrom_58 (k := 0) rfl rfl ?_
    refine zr_bipush C dX7_proposesFrom_60 (by decide) rfl ?_
    refine zr_iadd C dX7_proposesFrom_62 rfl ?_
    obtain ⟨h0, h1, hq⟩ := hq
    refine zr_iald C (zf_6_s hk0) h0 h1 dX7_proposesFrom_63 rfl ?_
    refine zr_isub C dX7_proposesFrom_64 rfl ?_
    obtain ⟨h0, hq⟩ := hq
    refine zr_iast C (zf_6_stem hk0) (by decide) h0 dX7_proposesFrom_65 rfl (fun s6 es6 => ?_)
    have hq := hq s6 es6
    refine zr_aload_n C dX7_proposesFrom_66 rfl (k := 1) rfl rfl ?_
    refine zr_get C (zE_6 hk0) (zk_lt hk0 (by decide)) (Cn := RX7) (T := TX7) (N := 19) rfl iX7_proposesFrom_6 0 (by decide) fX7_proposesFrom_9 rfl dX7_proposesFrom_67 rfl ?_
    refine zr_iload C dX7_proposesFrom_70 (k := 0) rfl rfl ?_
    obtain ⟨h0, h1, hq⟩ := hq
    refine zr_iald C (zf_6_s hk0) h0 h1 dX7_proposesFrom_72 rfl ?_
    refine zr_iconst C dX7_proposesFrom_73 rfl ?_
    obtain ⟨h0, hq⟩ := hq
    refine zr_icmp_ne C (tgt := 120) dX7_proposesFrom_74 (by decide) h0 (zRl rfl) rfl (fun z => ?_) (fun z => ?_)
    · have hq := hq.1 z
      exact zr_sub C [1, 2, 0] rfl (tX7_proposesFrom_120 C hr hk0 _ _ _ hq)
    · have hq := hq.2 z
      refine zr_iconst C dX7_proposesFrom_77 rfl ?_
      refine zr_istore C (L' := [(5, .int (zI 1)), (4, .int (zI r1)), (0, .ref (a k0)), (1, .int (zI x1)), (2, .int (zI x2)), (3, .int (zI x3))]) dX7_proposesFrom_78 (by decide) rfl rfl ?_
      obtain ⟨n, hq⟩ := hq
      exact zr_sub C [2, 3, 1, 0] rfl (tX7_proposesFrom_80 C hr hk0 n _ _ _ _ hq)
  · have hq := hq.2 z
    exact zr_vret C hr dX7_proposesFrom_30 ⟨rfl, hq⟩)
/-! InflectionGuesserModel.find()V -/
set_option maxRecDepth 20000 in
theorem ggX7_find_X7_cellMany : GoodIn wsX7_find wsX7_cellMany := goodIn_r _ [8, 3, 9, 10, 7, 11, 84, 85, 86, 87, 88, 89, 90, 91, 92, 93, 94, 95, 96, 97, 98, 99, 100, 101, 102] (by decide +kernel) (by decide +kernel)
set_option maxRecDepth 20000 in
theorem gX7_find_X7_cellMany : GoodIn wsX7_find (wsV RX7 69 RX7 yX7_cellMany wsX7_cellMany) := goodIn_app (goodIn_of _ (by decide +kernel)) ggX7_find_X7_cellMany
set_option maxRecDepth 20000 in
theorem ggX7_find_X7_proposesFrom : GoodIn wsX7_find wsX7_proposesFrom := goodIn_r _ [15, 3, 16, 17, 18, 7, 19, 9, 10, 11, 20, 21, 22, 23, 24, 25, 26, 27, 28, 29, 30, 31, 32, 33, 34, 35, 36, 37, 38, 39, 40, 41, 2, 42, 43, 44, 45, 46, 47, 48, 49, 50, 51, 52, 53, 54, 55, 56, 57, 58, 59, 60, 61, 62, 63, 64, 65, 4, 5, 6, 8, 66, 67, 68, 69, 70, 71, 72, 73, 74, 75, 76, 77, 78, 79, 80, 81, 82, 83, 84, 85, 86, 87, 88, 89, 90, 91, 92, 93, 94, 95, 96, 97, 98, 99, 100, 101, 102] (by decide +kernel) (by decide +kernel)
set_option maxRecDepth 20000 in
theorem gX7_find_X7_proposesFrom : GoodIn wsX7_find (wsV RX7 189 RX7 yX7_proposesFrom wsX7_proposesFrom) := goodIn_app (goodIn_of _ (by decide +kernel)) ggX7_find_X7_proposesFrom
theorem dX7_find_0 : decode cX7_find 0 = .ok (.aload_n 0, 1) := by decide +kernel
theorem dX7_find_1 : decode cX7_find 1 = .ok (.getfield 98, 3) := by decide +kernel
theorem dX7_find_4 : decode cX7_find 4 = .ok (.ifCond .eq 4, 3) := by decide +kernel
theorem dX7_find_7 : decode cX7_find 7 = .ok (.return_, 1) := by decide +kernel
theorem dX7_find_8 : decode cX7_find 8 = .ok (.aload_n 0, 1) := by decide +kernel
theorem dX7_find_9 : decode cX7_find 9 = .ok (.iconst 0, 1) := by decide +kernel
theorem dX7_find_10 : decode cX7_find 10 = .ok (.putfield 175, 3) := by decide +kernel
theorem dX7_find_13 : decode cX7_find 13 = .ok (.iconst 0, 1) := by decide +kernel
theorem dX7_find_14 : decode cX7_find 14 = .ok (.istore_n 1, 1) := by decide +kernel
theorem dX7_find_15 : decode cX7_find 15 = .ok (.iload_n 1, 1) := by decide +kernel
theorem dX7_find_16 : decode cX7_find 16 = .ok (.aload_n 0, 1) := by decide +kernel
theorem dX7_find_17 : decode cX7_find 17 = .ok (.getfield 9, 3) := by decide +kernel
theorem dX7_find_20 : decode cX7_find 20 = .ok (.iconst 0, 1) := by decide +kernel
theorem dX7_find_21 : decode cX7_find 21 = .ok (.iaload, 1) := by decide +kernel
theorem dX7_find_22 : decode cX7_find 22 = .ok (.if_icmp .ge 51, 3) := by decide +kernel
theorem dX7_find_25 : decode cX7_find 25 = .ok (.iconst 0, 1) := by decide +kernel
theorem dX7_find_26 : decode cX7_find 26 = .ok (.istore_n 2, 1) := by decide +kernel
theorem dX7_find_27 : decode cX7_find 27 = .ok (.iload_n 2, 1) := by decide +kernel
theorem dX7_find_28 : decode cX7_find 28 = .ok (.aload_n 0, 1) := by decide +kernel
theorem dX7_find_29 : decode cX7_find 29 = .ok (.iload_n 1, 1) := by decide +kernel
theorem dX7_find_30 : decode cX7_find 30 = .ok (.invokevirtual 69, 3) := by decide +kernel
theorem dX7_find_33 : decode cX7_find 33 = .ok (.if_icmp .ge 34, 3) := by decide +kernel
theorem dX7_find_36 : decode cX7_find 36 = .ok (.iconst 0, 1) := by decide +kernel
theorem dX7_find_37 : decode cX7_find 37 = .ok (.istore_n 3, 1) := by decide +kernel
theorem dX7_find_38 : decode cX7_find 38 = .ok (.iload_n 3, 1) := by decide +kernel
theorem dX7_find_39 : decode cX7_find 39 = .ok (.aload_n 0, 1) := by decide +kernel
theorem dX7_find_40 : decode cX7_find 40 = .ok (.getfield 9, 3) := by decide +kernel
theorem dX7_find_43 : decode cX7_find 43 = .ok (.iconst 1, 1) := by decide +kernel
theorem dX7_find_44 : decode cX7_find 44 = .ok (.iaload, 1) := by decide +kernel
theorem dX7_find_45 : decode cX7_find 45 = .ok (.if_icmp .ge 16, 3) := by decide +kernel
theorem dX7_find_48 : decode cX7_find 48 = .ok (.aload_n 0, 1) := by decide +kernel
theorem dX7_find_49 : decode cX7_find 49 = .ok (.iload_n 1, 1) := by decide +kernel
theorem dX7_find_50 : decode cX7_find 50 = .ok (.iload_n 2, 1) := by decide +kernel
theorem dX7_find_51 : decode cX7_find 51 = .ok (.iload_n 3, 1) := by decide +kernel
theorem dX7_find_52 : decode cX7_find 52 = .ok (.invokevirtual 189, 3) := by decide +kernel
theorem dX7_find_55 : decode cX7_find 55 = .ok (.iinc 3 1, 3) := by decide +kernel
theorem dX7_find_58 : decode cX7_find 58 = .ok (.goto (-20), 3) := by decide +kernel
theorem dX7_find_61 : decode cX7_find 61 = .ok (.iinc 2 1, 3) := by decide +kernel
theorem dX7_find_64 : decode cX7_find 64 = .ok (.goto (-37), 3) := by decide +kernel
theorem dX7_find_67 : decode cX7_find 67 = .ok (.iinc 1 1, 3) := by decide +kernel
theorem dX7_find_70 : decode cX7_find 70 = .ok (.goto (-55), 3) := by decide +kernel
theorem dX7_find_73 : decode cX7_find 73 = .ok (.aload_n 0, 1) := by decide +kernel
theorem dX7_find_74 : decode cX7_find 74 = .ok (.iconst 1, 1) := by decide +kernel
theorem dX7_find_75 : decode cX7_find 75 = .ok (.putfield 98, 3) := by decide +kernel
theorem dX7_find_78 : decode cX7_find 78 = .ok (.return_, 1) := by decide +kernel
def rX7_find : Room := { frames := 6, cells := 0, slots := 0, locals := 145 }
theorem fX7_find_98 : Cond.fieldLink RX7 98 (TX7 8).1 (TX7 8).2.1 (TX7 8).2.2.1 ∈ wsX7_find := by decide +kernel
theorem fX7_find_175 : Cond.fieldLink RX7 175 (TX7 9).1 (TX7 9).2.1 (TX7 9).2.2.1 ∈ wsX7_find := by decide +kernel
theorem fX7_find_9 : Cond.fieldLink RX7 9 (TX7 0).1 (TX7 0).2.1 (TX7 0).2.2.1 ∈ wsX7_find := by decide +kernel
theorem iX7_find_6 : ∀ w ∈ u_ws RX7 TX7 19, w ∈ wsX7_find := by decide +kernel
set_option maxRecDepth 100000 in
set_option maxHeartbeats 4000000 in
theorem tX7_find_38 {p : Program} {l : Launch} {e : Env} {s : State} {m : MethodId} {args : Array Value} {below : List Frame} {meth : Method} {c : Code} {a : Nat → Nat} {cy : Nat → ClassId} {D : va_G} {tV : Nat} {sa : Nat → Nat} (C : zC p l s m args meth c cX7_find 4 wsX7_find RX7 a cy D tV sa) (hr : meth.sig.returnType = none) {k0 : Nat} (hk0 : zk k0 = 6) {P : Sto → Prop} {K15 : Int → Sto → Prop} (hK15 : ∀ (x1 : Int) (σ : Sto), K15 x1 σ → zX p l e rX7_find s m args below meth c 4 a cy D (MQ below (fun _ => zQo a cy D s.heap.size (zPV P)) args s 0 0 (zA a s.heap.size)) 0 0 σ 15 [(0, .ref (a k0)), (1, .int (zI x1))] []) {K27 : Int → Int → Sto → Prop} (hK27 : ∀ (x1 x2 : Int) (σ : Sto), K27 x1 x2 σ → zX p l e rX7_find s m args below meth c 4 a cy D (MQ below (fun _ => zQo a cy D s.heap.size (zPV P)) args s 0 0 (zA a s.heap.size)) 0 0 σ 27 [(0, .ref (a k0)), (1, .int (zI x1)), (2, .int (zI x2))] []) : ∀ (n : Nat) (x1 x2 x3 : Int) (σ : Sto), vX7_find_38 k0 P K15 K27 n x1 x2 x3 σ → zX p l e rX7_find s m args below meth c 4 a cy D (MQ below (fun _ => zQo a cy D s.heap.size (zPV P)) args s 0 0 (zA a s.heap.size)) 0 0 σ 38 [(0, .ref (a k0)), (1, .int (zI x1)), (2, .int (zI x2)), (3, .int (zI x3))] [] := by
  intro n
  induction n with
  | zero => intro x1 x2 x3 σ hq; exact hq.elim
  | succ n ih =>
    intro x1 x2 x3 σ hq
    have hK38 := ih
    have hq : bX7_find_38 k0 P K15 K27 (vX7_find_38 k0 P K15 K27 n) x1 x2 x3 σ := hq
    unfold bX7_find_38 at hq
    refine zr_iload_n C dX7_find_38 rfl (k := 3) rfl rfl ?_
    refine zr_aload_n C dX7_find_39 rfl (k := 0) rfl rfl ?_
    refine zr_get C (zE_6 hk0) (zk_lt hk0 (by decide)) (Cn := RX7) (T := TX7) (N := 19) rfl iX7_find_6 0 (by decide) fX7_find_9 rfl dX7_find_40 rfl ?_
    refine zr_iconst C dX7_find_43 rfl ?_
    obtain ⟨h0, hq⟩ := hq
    refine zr_iald C (zf_6_s hk0) (by decide) h0 dX7_find_44 rfl ?_
    obtain ⟨h0, h1, hq⟩ := hq
    refine zr_icmp_ge C (tgt := 61) dX7_find_45 (by decide) h0 h1 rfl (fun z => ?_) (fun z => ?_)
    · have hq := hq.1 z
      refine zr_iinc C (L' := [(2, .int (zI (x2 + 1))), (0, .ref (a k0)), (1, .int (zI x1)), (3, .int (zI x3))]) dX7_find_61 (k := 2) rfl (by decide) rfl rfl ?_
      refine zr_goto C (tgt := 27) dX7_find_64 (by decide) ?_
      exact zr_sub C [1, 2, 0] rfl (hK27 _ _ _ hq)
    · have hq := hq.2 z
      refine zr_aload_n C dX7_find_48 rfl (k := 0) rfl rfl ?_
      refine zr_iload_n C dX7_find_49 rfl (k := 1) rfl rfl ?_
      refine zr_iload_n C dX7_find_50 rfl (k := 2) rfl rfl ?_
      refine zr_iload_n C dX7_find_51 rfl (k := 3) rfl rfl ?_
      refine zr_callv (zrunV C (st := []) (mX7_proposesFrom hk0 hq) (cwV 3 C.2.2.2.2.1 gX7_find_X7_proposesFrom rfl rfl rfl (by decide +kernel) ⟨Nat.le_of_ble_eq_true rfl, Nat.le_of_ble_eq_true rfl⟩) (zE_6 hk0) (zk_lt hk0 (by decide)) (T := TX7) (N := 19) rfl rfl rfl (Nat.le_of_ble_eq_true rfl) dX7_find_52 ⟨Nat.zero_le _, Nat.zero_le _⟩) rfl (fun s4 hq => ?_)
      refine zr_iinc C (L' := [(3, .int (zI (x3 + 1))), (0, .ref (a k0)), (1, .int (zI x1)), (2, .int (zI x2))]) dX7_find_55 (k := 3) rfl (by decide) rfl rfl ?_
      refine zr_goto C (tgt := 38) dX7_find_58 (by decide) ?_
      exact zr_sub C [1, 2, 3, 0] rfl (hK38 _ _ _ _ hq)
set_option maxRecDepth 100000 in
set_option maxHeartbeats 4000000 in
theorem tX7_find_27 {p : Program} {l : Launch} {e : Env} {s : State} {m : MethodId} {args : Array Value} {below : List Frame} {meth : Method} {c : Code} {a : Nat → Nat} {cy : Nat → ClassId} {D : va_G} {tV : Nat} {sa : Nat → Nat} (C : zC p l s m args meth c cX7_find 4 wsX7_find RX7 a cy D tV sa) (hr : meth.sig.returnType = none) {k0 : Nat} (hk0 : zk k0 = 6) {P : Sto → Prop} {K15 : Int → Sto → Prop} (hK15 : ∀ (x1 : Int) (σ : Sto), K15 x1 σ → zX p l e rX7_find s m args below meth c 4 a cy D (MQ below (fun _ => zQo a cy D s.heap.size (zPV P)) args s 0 0 (zA a s.heap.size)) 0 0 σ 15 [(0, .ref (a k0)), (1, .int (zI x1))] []) : ∀ (n : Nat) (x1 x2 : Int) (σ : Sto), vX7_find_27 k0 P K15 n x1 x2 σ → zX p l e rX7_find s m args below meth c 4 a cy D (MQ below (fun _ => zQo a cy D s.heap.size (zPV P)) args s 0 0 (zA a s.heap.size)) 0 0 σ 27 [(0, .ref (a k0)), (1, .int (zI x1)), (2, .int (zI x2))] [] := by
  intro n
  induction n with
  | zero => intro x1 x2 σ hq; exact hq.elim
  | succ n ih =>
    intro x1 x2 σ hq
    have hK27 := ih
    have hq : bX7_find_27 k0 P K15 (vX7_find_27 k0 P K15 n) x1 x2 σ := hq
    unfold bX7_find_27 at hq
    refine zr_iload_n C dX7_find_27 rfl (k := 2) rfl rfl ?_
    refine zr_aload_n C dX7_find_28 rfl (k := 0) rfl rfl ?_
    refine zr_iload_n C dX7_find_29 rfl (k := 1) rfl rfl ?_
    refine zr_calli (zrunV C (st := [.int (zI x2)]) (mX7_cellMany hk0 hq) (cwV 1 C.2.2.2.2.1 gX7_find_X7_cellMany rfl rfl rfl (by decide +kernel) ⟨Nat.le_of_ble_eq_true rfl, Nat.le_of_ble_eq_true rfl⟩) (zE_6 hk0) (zk_lt hk0 (by decide)) (T := TX7) (N := 19) rfl rfl rfl (Nat.le_of_ble_eq_true rfl) dX7_find_30 ⟨Nat.zero_le _, Nat.zero_le _⟩) rfl (fun r3 s3 hq => ?_)
    obtain ⟨h0, h1, hq⟩ := hq
    refine zr_icmp_ge C (tgt := 67) dX7_find_33 (by decide) h0 h1 rfl (fun z => ?_) (fun z => ?_)
    · have hq := hq.1 z
      refine zr_iinc C (L' := [(1, .int (zI (x1 + 1))), (0, .ref (a k0)), (2, .int (zI x2))]) dX7_find_67 (k := 1) rfl (by decide) rfl rfl ?_
      refine zr_goto C (tgt := 15) dX7_find_70 (by decide) ?_
      exact zr_sub C [1, 0] rfl (hK15 _ _ hq)
    · have hq := hq.2 z
      refine zr_iconst C dX7_find_36 rfl ?_
      refine zr_istore_n C (L' := [(3, .int (zI 0)), (0, .ref (a k0)), (1, .int (zI x1)), (2, .int (zI x2))]) dX7_find_37 rfl (by decide) rfl rfl ?_
      obtain ⟨n, hq⟩ := hq
      exact zr_sub C [1, 2, 3, 0] rfl (tX7_find_38 C hr hk0 hK15 hK27 n _ _ _ _ hq)
set_option maxRecDepth 100000 in
set_option maxHeartbeats 4000000 in
theorem tX7_find_15 {p : Program} {l : Launch} {e : Env} {s : State} {m : MethodId} {args : Array Value} {below : List Frame} {meth : Method} {c : Code} {a : Nat → Nat} {cy : Nat → ClassId} {D : va_G} {tV : Nat} {sa : Nat → Nat} (C : zC p l s m args meth c cX7_find 4 wsX7_find RX7 a cy D tV sa) (hr : meth.sig.returnType = none) {k0 : Nat} (hk0 : zk k0 = 6) {P : Sto → Prop} : ∀ (n : Nat) (x1 : Int) (σ : Sto), vX7_find_15 k0 P n x1 σ → zX p l e rX7_find s m args below meth c 4 a cy D (MQ below (fun _ => zQo a cy D s.heap.size (zPV P)) args s 0 0 (zA a s.heap.size)) 0 0 σ 15 [(0, .ref (a k0)), (1, .int (zI x1))] [] := by
  intro n
  induction n with
  | zero => intro x1 σ hq; exact hq.elim
  | succ n ih =>
    intro x1 σ hq
    have hK15 := ih
    have hq : bX7_find_15 k0 P (vX7_find_15 k0 P n) x1 σ := hq
    unfold bX7_find_15 at hq
    refine zr_iload_n C dX7_find_15 rfl (k := 1) rfl rfl ?_
    refine zr_aload_n C dX7_find_16 rfl (k := 0) rfl rfl ?_
    refine zr_get C (zE_6 hk0) (zk_lt hk0 (by decide)) (Cn := RX7) (T := TX7) (N := 19) rfl iX7_find_6 0 (by decide) fX7_find_9 rfl dX7_find_17 rfl ?_
    refine zr_iconst C dX7_find_20 rfl ?_
    obtain ⟨h0, hq⟩ := hq
    refine zr_iald C (zf_6_s hk0) (by decide) h0 dX7_find_21 rfl ?_
    obtain ⟨h0, h1, hq⟩ := hq
    refine zr_icmp_ge C (tgt := 73) dX7_find_22 (by decide) h0 h1 rfl (fun z => ?_) (fun z => ?_)
    · have hq := hq.1 z
      refine zr_aload_n C dX7_find_73 rfl (k := 0) rfl rfl ?_
      refine zr_iconst C dX7_find_74 rfl ?_
      refine zr_put C (zE_6 hk0) (zk_lt hk0 (by decide)) (by rw [hk0]; decide) (Cn := RX7) (T := TX7) (N := 19) rfl iX7_find_6 tyX7 tyX7_ok nmX7 8 (by decide) fX7_find_98 rfl (ty := .boolean) (by decide +kernel) (znr_z (Or.inr rfl)) (zft_z (Or.inr rfl)) (Nat.le_of_ble_eq_true rfl) (zp_6_8 hk0) dX7_find_75 rfl (fun s2 es2 => ?_)
      have hq := hq s2 es2
      exact zr_vret C hr dX7_find_78 ⟨rfl, hq⟩
    · have hq := hq.2 z
      refine zr_iconst C dX7_find_25 rfl ?_
      refine zr_istore_n C (L' := [(2, .int (zI 0)), (0, .ref (a k0)), (1, .int (zI x1))]) dX7_find_26 rfl (by decide) rfl rfl ?_
      obtain ⟨n, hq⟩ := hq
      exact zr_sub C [1, 2, 0] rfl (tX7_find_27 C hr hk0 hK15 n _ _ _ hq)
set_option maxRecDepth 100000 in
set_option maxHeartbeats 4000000 in
theorem mX7_find {l : Launch} {a : Nat → Nat} {cy : Nat → ClassId} {D : va_G} {tV : Nat} {sa : Nat → Nat} {P : Sto → Prop} {σ : Sto} {k0 : Nat} (hk0 : zk k0 = 6) (hq : vX7_find k0 P σ) : zM l yX7_find wsX7_find rX7_find a cy D tV sa [.ref (a k0)] σ (zPV P) :=
  zM_of (cc := cX7_find) (maxL := 4) (ret := none) (by decide) rfl (Nat.le_of_ble_eq_true rfl) (L0 := [(0, .ref (a k0))]) rfl (fun p e s m args below meth c C hr => by
  unfold vX7_find at hq
  refine zr_aload_n C dX7_find_0 rfl (k := 0) rfl rfl ?_
  refine zr_get C (zE_6 hk0) (zk_lt hk0 (by decide)) (Cn := RX7) (T := TX7) (N := 19) rfl iX7_find_6 8 (by decide) fX7_find_98 rfl dX7_find_1 rfl ?_
  obtain ⟨h0, hq⟩ := hq
  refine zr_if_eq C (tgt := 8) dX7_find_4 (by decide) h0 rfl (fun z => ?_) (fun z => ?_)
  · have hq := hq.1 z
    refine zr_aload_n C dX7_find_8 rfl (k := 0) rfl rfl ?_
    refine zr_iconst C dX7_find_9 rfl ?_
    refine zr_put C (zE_6 hk0) (zk_lt hk0 (by decide)) (by rw [hk0]; decide) (Cn := RX7) (T := TX7) (N := 19) rfl iX7_find_6 tyX7 tyX7_ok nmX7 9 (by decide) fX7_find_175 rfl (ty := .int) (by decide +kernel) rfl rfl (Nat.le_of_ble_eq_true rfl) (zp_6_9 hk0) dX7_find_10 rfl (fun s1 es1 => ?_)
    have hq := hq s1 es1
    refine zr_iconst C dX7_find_13 rfl ?_
    refine zr_istore_n C (L' := [(1, .int (zI 0)), (0, .ref (a k0))]) dX7_find_14 rfl (by decide) rfl rfl ?_
    obtain ⟨n, hq⟩ := hq
    exact zr_sub C [1, 0] rfl (tX7_find_15 C hr hk0 n _ _ hq)
  · have hq := hq.2 z
    exact zr_vret C hr dX7_find_7 ⟨rfl, hq⟩)
/-! InflectionGuesserModel.isHypothesis(I)Z -/
set_option maxRecDepth 20000 in
theorem ggX7_isHypothesis_X7_find : GoodIn wsX7_isHypothesis wsX7_find := goodIn_r _ [6, 7, 1, 8, 9, 10, 11, 5, 12, 13, 14, 15, 16, 17, 18, 19, 20, 21, 22, 23, 24, 25, 26, 27, 28, 29, 30, 31, 32, 33, 34, 35, 36, 37, 38, 39, 40, 41, 42, 43, 44, 45, 46, 47, 48, 49, 50, 51, 52, 53, 54, 55, 56, 57, 58, 59, 60, 61, 62, 63, 64, 65, 66, 67, 68, 69, 70, 71, 72, 73, 74, 75, 76, 77, 78, 79, 80, 81, 82, 83, 84, 85, 86, 87, 88, 89, 90, 91, 92, 93, 94, 95, 96, 97, 98, 99, 100, 101, 102, 103, 104, 105, 106] (by decide +kernel) (by decide +kernel)
set_option maxRecDepth 20000 in
theorem gX7_isHypothesis_X7_find : GoodIn wsX7_isHypothesis (wsV RX7 193 RX7 yX7_find wsX7_find) := goodIn_app (goodIn_of _ (by decide +kernel)) ggX7_isHypothesis_X7_find
set_option maxRecDepth 20000 in
theorem ggX7_isHypothesis_X7_in : GoodIn wsX7_isHypothesis wsX7_in := goodIn_r _ [61] (by decide +kernel) (by decide +kernel)
set_option maxRecDepth 20000 in
theorem gX7_isHypothesis_X7_in : GoodIn wsX7_isHypothesis (va_wsS RX7 58 yX7_in wsX7_in) := goodIn_app (goodIn_of _ (by decide +kernel)) ggX7_isHypothesis_X7_in
theorem dX7_isHypothesis_0 : decode cX7_isHypothesis 0 = .ok (.aload_n 0, 1) := by decide +kernel
theorem dX7_isHypothesis_1 : decode cX7_isHypothesis 1 = .ok (.invokevirtual 193, 3) := by decide +kernel
theorem dX7_isHypothesis_4 : decode cX7_isHypothesis 4 = .ok (.iload_n 1, 1) := by decide +kernel
theorem dX7_isHypothesis_5 : decode cX7_isHypothesis 5 = .ok (.i2l, 1) := by decide +kernel
theorem dX7_isHypothesis_6 : decode cX7_isHypothesis 6 = .ok (.lconst 0, 1) := by decide +kernel
theorem dX7_isHypothesis_7 : decode cX7_isHypothesis 7 = .ok (.aload_n 0, 1) := by decide +kernel
theorem dX7_isHypothesis_8 : decode cX7_isHypothesis 8 = .ok (.getfield 175, 3) := by decide +kernel
theorem dX7_isHypothesis_11 : decode cX7_isHypothesis 11 = .ok (.iconst 1, 1) := by decide +kernel
theorem dX7_isHypothesis_12 : decode cX7_isHypothesis 12 = .ok (.isub, 1) := by decide +kernel
theorem dX7_isHypothesis_13 : decode cX7_isHypothesis 13 = .ok (.i2l, 1) := by decide +kernel
theorem dX7_isHypothesis_14 : decode cX7_isHypothesis 14 = .ok (.invokestatic 58, 3) := by decide +kernel
theorem dX7_isHypothesis_17 : decode cX7_isHypothesis 17 = .ok (.ireturn, 1) := by decide +kernel
def rX7_isHypothesis : Room := { frames := 7, cells := 0, slots := 0, locals := 168 }
theorem fX7_isHypothesis_175 : Cond.fieldLink RX7 175 (TX7 9).1 (TX7 9).2.1 (TX7 9).2.2.1 ∈ wsX7_isHypothesis := by decide +kernel
theorem iX7_isHypothesis_6 : ∀ w ∈ u_ws RX7 TX7 19, w ∈ wsX7_isHypothesis := by decide +kernel
set_option maxRecDepth 100000 in
set_option maxHeartbeats 4000000 in
theorem mX7_isHypothesis {l : Launch} {a : Nat → Nat} {cy : Nat → ClassId} {D : va_G} {tV : Nat} {sa : Nat → Nat} {P : Int → Sto → Prop} {σ : Sto} {k0 : Nat} {x1 : Int} (hk0 : zk k0 = 6) (hq : vX7_isHypothesis k0 x1 P σ) : zM l yX7_isHypothesis wsX7_isHypothesis rX7_isHypothesis a cy D tV sa [.ref (a k0), .int (zI x1)] σ (zPI P) :=
  zM_of (cc := cX7_isHypothesis) (maxL := 2) (ret := (some .boolean)) (by decide) rfl (Nat.le_of_ble_eq_true rfl) (L0 := [(0, .ref (a k0)), (1, .int (zI x1))]) rfl (fun p e s m args below meth c C hr => by
  unfold vX7_isHypothesis at hq
  refine zr_aload_n C dX7_isHypothesis_0 rfl (k := 0) rfl rfl ?_
  refine zr_callv (zrunV C (st := []) (mX7_find hk0 hq) (cwV 0 C.2.2.2.2.1 gX7_isHypothesis_X7_find rfl rfl rfl (by decide +kernel) ⟨Nat.le_of_ble_eq_true rfl, Nat.le_of_ble_eq_true rfl⟩) (zE_6 hk0) (zk_lt hk0 (by decide)) (T := TX7) (N := 19) rfl rfl rfl (Nat.le_of_ble_eq_true rfl) dX7_isHypothesis_1 ⟨Nat.zero_le _, Nat.zero_le _⟩) rfl (fun s1 hq => ?_)
  refine zr_iload_n C dX7_isHypothesis_4 rfl (k := 1) rfl rfl ?_
  obtain ⟨h0, hq⟩ := hq
  refine zr_i2l C dX7_isHypothesis_5 h0 rfl ?_
  refine zr_lconst C (x := 0) dX7_isHypothesis_6 rfl rfl ?_
  refine zr_aload_n C dX7_isHypothesis_7 rfl (k := 0) rfl rfl ?_
  refine zr_get C (zE_6 hk0) (zk_lt hk0 (by decide)) (Cn := RX7) (T := TX7) (N := 19) rfl iX7_isHypothesis_6 9 (by decide) fX7_isHypothesis_175 rfl dX7_isHypothesis_8 rfl ?_
  refine zr_iconst C dX7_isHypothesis_11 rfl ?_
  refine zr_isub C dX7_isHypothesis_12 rfl ?_
  obtain ⟨h0, hq⟩ := hq
  refine zr_i2l C dX7_isHypothesis_13 h0 rfl ?_
  refine zr_calli (zrunS C (st := []) (mX7_in  hq) (va_cwS 3 C.2.2.2.2.1 gX7_isHypothesis_X7_in rfl rfl rfl (by decide +kernel) ⟨Nat.le_of_ble_eq_true rfl, Nat.le_of_ble_eq_true rfl⟩) rfl rfl (Nat.le_of_ble_eq_true rfl) dX7_isHypothesis_14 ⟨Nat.zero_le _, Nat.zero_le _⟩) rfl (fun r2 s2 hq => ?_)
  obtain ⟨h0, hq⟩ := hq
  exact zr_zret C hr (znr_z h0) dX7_isHypothesis_17 ⟨_, rfl, hq⟩)
/-! InflectionGuesserModel.hypothesisCount()I -/
set_option maxRecDepth 20000 in
theorem ggX7_hypothesisCount_X7_find : GoodIn wsX7_hypothesisCount wsX7_find := goodIn_r _ [7, 8, 2, 9, 10, 11, 12, 6, 13, 14, 15, 16, 17, 18, 19, 20, 21, 22, 23, 24, 25, 26, 27, 28, 29, 30, 31, 32, 33, 34, 35, 36, 37, 38, 39, 40, 41, 42, 43, 44, 45, 46, 47, 48, 49, 50, 51, 52, 53, 54, 55, 56, 57, 58, 59, 60, 61, 62, 63, 64, 65, 66, 67, 68, 69, 70, 71, 72, 73, 74, 75, 76, 77, 78, 79, 80, 81, 82, 83, 84, 85, 86, 87, 88, 89, 90, 91, 92, 93, 94, 95, 96, 97, 98, 99, 100, 101, 102, 103, 104, 105, 106, 107] (by decide +kernel) (by decide +kernel)
set_option maxRecDepth 20000 in
theorem gX7_hypothesisCount_X7_find : GoodIn wsX7_hypothesisCount (wsV RX7 193 RX7 yX7_find wsX7_find) := goodIn_app (goodIn_of _ (by decide +kernel)) ggX7_hypothesisCount_X7_find
theorem dX7_hypothesisCount_0 : decode cX7_hypothesisCount 0 = .ok (.aload_n 0, 1) := by decide +kernel
theorem dX7_hypothesisCount_1 : decode cX7_hypothesisCount 1 = .ok (.iconst 0, 1) := by decide +kernel
theorem dX7_hypothesisCount_2 : decode cX7_hypothesisCount 2 = .ok (.putfield 50, 3) := by decide +kernel
theorem dX7_hypothesisCount_5 : decode cX7_hypothesisCount 5 = .ok (.aload_n 0, 1) := by decide +kernel
theorem dX7_hypothesisCount_6 : decode cX7_hypothesisCount 6 = .ok (.invokevirtual 193, 3) := by decide +kernel
theorem dX7_hypothesisCount_9 : decode cX7_hypothesisCount 9 = .ok (.aload_n 0, 1) := by decide +kernel
theorem dX7_hypothesisCount_10 : decode cX7_hypothesisCount 10 = .ok (.getfield 175, 3) := by decide +kernel
theorem dX7_hypothesisCount_13 : decode cX7_hypothesisCount 13 = .ok (.ireturn, 1) := by decide +kernel
def rX7_hypothesisCount : Room := { frames := 7, cells := 0, slots := 0, locals := 168 }
theorem fX7_hypothesisCount_50 : Cond.fieldLink RX7 50 (TX7 7).1 (TX7 7).2.1 (TX7 7).2.2.1 ∈ wsX7_hypothesisCount := by decide +kernel
theorem fX7_hypothesisCount_175 : Cond.fieldLink RX7 175 (TX7 9).1 (TX7 9).2.1 (TX7 9).2.2.1 ∈ wsX7_hypothesisCount := by decide +kernel
theorem iX7_hypothesisCount_6 : ∀ w ∈ u_ws RX7 TX7 19, w ∈ wsX7_hypothesisCount := by decide +kernel
set_option maxRecDepth 100000 in
set_option maxHeartbeats 4000000 in
theorem mX7_hypothesisCount {l : Launch} {a : Nat → Nat} {cy : Nat → ClassId} {D : va_G} {tV : Nat} {sa : Nat → Nat} {P : Int → Sto → Prop} {σ : Sto} {k0 : Nat} (hk0 : zk k0 = 6) (hq : vX7_hypothesisCount k0 P σ) : zM l yX7_hypothesisCount wsX7_hypothesisCount rX7_hypothesisCount a cy D tV sa [.ref (a k0)] σ (zPI P) :=
  zM_of (cc := cX7_hypothesisCount) (maxL := 1) (ret := (some .int)) (by decide) rfl (Nat.le_of_ble_eq_true rfl) (L0 := [(0, .ref (a k0))]) rfl (fun p e s m args below meth c C hr => by
  unfold vX7_hypothesisCount at hq
  refine zr_aload_n C dX7_hypothesisCount_0 rfl (k := 0) rfl rfl ?_
  refine zr_iconst C dX7_hypothesisCount_1 rfl ?_
  refine zr_put C (zE_6 hk0) (zk_lt hk0 (by decide)) (by rw [hk0]; decide) (Cn := RX7) (T := TX7) (N := 19) rfl iX7_hypothesisCount_6 tyX7 tyX7_ok nmX7 7 (by decide) fX7_hypothesisCount_50 rfl (ty := .int) (by decide +kernel) rfl rfl (Nat.le_of_ble_eq_true rfl) (zp_6_7 hk0) dX7_hypothesisCount_2 rfl (fun s1 es1 => ?_)
  have hq := hq s1 es1
  refine zr_aload_n C dX7_hypothesisCount_5 rfl (k := 0) rfl rfl ?_
  refine zr_callv (zrunV C (st := []) (mX7_find hk0 hq) (cwV 0 C.2.2.2.2.1 gX7_hypothesisCount_X7_find rfl rfl rfl (by decide +kernel) ⟨Nat.le_of_ble_eq_true rfl, Nat.le_of_ble_eq_true rfl⟩) (zE_6 hk0) (zk_lt hk0 (by decide)) (T := TX7) (N := 19) rfl rfl rfl (Nat.le_of_ble_eq_true rfl) dX7_hypothesisCount_6 ⟨Nat.zero_le _, Nat.zero_le _⟩) rfl (fun s2 hq => ?_)
  refine zr_aload_n C dX7_hypothesisCount_9 rfl (k := 0) rfl rfl ?_
  refine zr_get C (zE_6 hk0) (zk_lt hk0 (by decide)) (Cn := RX7) (T := TX7) (N := 19) rfl iX7_hypothesisCount_6 9 (by decide) fX7_hypothesisCount_175 rfl dX7_hypothesisCount_10 rfl ?_
  exact zr_iret C hr dX7_hypothesisCount_13 ⟨_, rfl, hq⟩)
/-! InflectionGuesserModel.hypothesis(II)I -/
set_option maxRecDepth 20000 in
theorem ggX7_hypothesis_X7_in : GoodIn wsX7_hypothesis wsX7_in := goodIn_r _ [67] (by decide +kernel) (by decide +kernel)
set_option maxRecDepth 20000 in
theorem gX7_hypothesis_X7_in : GoodIn wsX7_hypothesis (va_wsS RX7 58 yX7_in wsX7_in) := goodIn_app (goodIn_of _ (by decide +kernel)) ggX7_hypothesis_X7_in
set_option maxRecDepth 20000 in
theorem ggX7_hypothesis_X7_isHypothesis : GoodIn wsX7_hypothesis wsX7_isHypothesis := goodIn_r _ [12, 13, 14, 15, 16, 11, 17, 18, 19, 20, 21, 22, 23, 24, 25, 26, 27, 28, 29, 30, 31, 32, 33, 34, 35, 36, 37, 38, 39, 40, 41, 42, 43, 44, 45, 46, 47, 48, 49, 50, 51, 52, 53, 54, 55, 56, 4, 7, 57, 58, 5, 6, 3, 59, 60, 61, 62, 63, 64, 65, 66, 67, 68, 69, 70, 71, 72, 73, 74, 75, 76, 77, 78, 79, 80, 81, 82, 83, 84, 85, 86, 87, 88, 89, 90, 91, 92, 93, 94, 95, 96, 97, 98, 99, 100, 101, 102, 103, 104, 105, 106, 107, 108, 109, 110, 111, 112] (by decide +kernel) (by decide +kernel)
set_option maxRecDepth 20000 in
theorem gX7_hypothesis_X7_isHypothesis : GoodIn wsX7_hypothesis (wsV RX7 196 RX7 yX7_isHypothesis wsX7_isHypothesis) := goodIn_app (goodIn_of _ (by decide +kernel)) ggX7_hypothesis_X7_isHypothesis
theorem dX7_hypothesis_0 : decode cX7_hypothesis 0 = .ok (.aload_n 0, 1) := by decide +kernel
theorem dX7_hypothesis_1 : decode cX7_hypothesis 1 = .ok (.aload_n 0, 1) := by decide +kernel
theorem dX7_hypothesis_2 : decode cX7_hypothesis 2 = .ok (.iload_n 1, 1) := by decide +kernel
theorem dX7_hypothesis_3 : decode cX7_hypothesis 3 = .ok (.invokevirtual 196, 3) := by decide +kernel
theorem dX7_hypothesis_6 : decode cX7_hypothesis 6 = .ok (.ifCond .ne 7, 3) := by decide +kernel
theorem dX7_hypothesis_9 : decode cX7_hypothesis 9 = .ok (.iconst 1, 1) := by decide +kernel
theorem dX7_hypothesis_10 : decode cX7_hypothesis 10 = .ok (.goto 20, 3) := by decide +kernel
theorem dX7_hypothesis_13 : decode cX7_hypothesis 13 = .ok (.iload_n 2, 1) := by decide +kernel
theorem dX7_hypothesis_14 : decode cX7_hypothesis 14 = .ok (.i2l, 1) := by decide +kernel
theorem dX7_hypothesis_15 : decode cX7_hypothesis 15 = .ok (.lconst 0, 1) := by decide +kernel
theorem dX7_hypothesis_16 : decode cX7_hypothesis 16 = .ok (.ldc2_w 116, 3) := by decide +kernel
theorem dX7_hypothesis_19 : decode cX7_hypothesis 19 = .ok (.invokestatic 58, 3) := by decide +kernel
theorem dX7_hypothesis_22 : decode cX7_hypothesis 22 = .ok (.ifCond .ne 7, 3) := by decide +kernel
theorem dX7_hypothesis_25 : decode cX7_hypothesis 25 = .ok (.iconst 2, 1) := by decide +kernel
theorem dX7_hypothesis_26 : decode cX7_hypothesis 26 = .ok (.goto 4, 3) := by decide +kernel
theorem dX7_hypothesis_29 : decode cX7_hypothesis 29 = .ok (.iconst 0, 1) := by decide +kernel
theorem dX7_hypothesis_30 : decode cX7_hypothesis 30 = .ok (.putfield 50, 3) := by decide +kernel
theorem dX7_hypothesis_33 : decode cX7_hypothesis 33 = .ok (.aload_n 0, 1) := by decide +kernel
theorem dX7_hypothesis_34 : decode cX7_hypothesis 34 = .ok (.getfield 50, 3) := by decide +kernel
theorem dX7_hypothesis_37 : decode cX7_hypothesis 37 = .ok (.ifCond .le 5, 3) := by decide +kernel
theorem dX7_hypothesis_40 : decode cX7_hypothesis 40 = .ok (.iconst 0, 1) := by decide +kernel
theorem dX7_hypothesis_41 : decode cX7_hypothesis 41 = .ok (.ireturn, 1) := by decide +kernel
theorem dX7_hypothesis_42 : decode cX7_hypothesis 42 = .ok (.aload_n 0, 1) := by decide +kernel
theorem dX7_hypothesis_43 : decode cX7_hypothesis 43 = .ok (.getfield 37, 3) := by decide +kernel
theorem dX7_hypothesis_46 : decode cX7_hypothesis 46 = .ok (.iload_n 1, 1) := by decide +kernel
theorem dX7_hypothesis_47 : decode cX7_hypothesis 47 = .ok (.iaload, 1) := by decide +kernel
theorem dX7_hypothesis_48 : decode cX7_hypothesis 48 = .ok (.istore_n 3, 1) := by decide +kernel
theorem dX7_hypothesis_49 : decode cX7_hypothesis 49 = .ok (.iload_n 2, 1) := by decide +kernel
theorem dX7_hypothesis_50 : decode cX7_hypothesis 50 = .ok (.ifCond .ne 12, 3) := by decide +kernel
theorem dX7_hypothesis_53 : decode cX7_hypothesis 53 = .ok (.aload_n 0, 1) := by decide +kernel
theorem dX7_hypothesis_54 : decode cX7_hypothesis 54 = .ok (.getfield 25, 3) := by decide +kernel
theorem dX7_hypothesis_57 : decode cX7_hypothesis 57 = .ok (.iload_n 3, 1) := by decide +kernel
theorem dX7_hypothesis_58 : decode cX7_hypothesis 58 = .ok (.iaload, 1) := by decide +kernel
theorem dX7_hypothesis_59 : decode cX7_hypothesis 59 = .ok (.goto 47, 3) := by decide +kernel
theorem dX7_hypothesis_62 : decode cX7_hypothesis 62 = .ok (.iload_n 2, 1) := by decide +kernel
theorem dX7_hypothesis_63 : decode cX7_hypothesis 63 = .ok (.iconst 1, 1) := by decide +kernel
theorem dX7_hypothesis_64 : decode cX7_hypothesis 64 = .ok (.if_icmp .ne 12, 3) := by decide +kernel
theorem dX7_hypothesis_67 : decode cX7_hypothesis 67 = .ok (.aload_n 0, 1) := by decide +kernel
theorem dX7_hypothesis_68 : decode cX7_hypothesis 68 = .ok (.getfield 28, 3) := by decide +kernel
theorem dX7_hypothesis_71 : decode cX7_hypothesis 71 = .ok (.iload_n 3, 1) := by decide +kernel
theorem dX7_hypothesis_72 : decode cX7_hypothesis 72 = .ok (.iaload, 1) := by decide +kernel
theorem dX7_hypothesis_73 : decode cX7_hypothesis 73 = .ok (.goto 33, 3) := by decide +kernel
theorem dX7_hypothesis_76 : decode cX7_hypothesis 76 = .ok (.iload_n 2, 1) := by decide +kernel
theorem dX7_hypothesis_77 : decode cX7_hypothesis 77 = .ok (.iconst 2, 1) := by decide +kernel
theorem dX7_hypothesis_78 : decode cX7_hypothesis 78 = .ok (.if_icmp .ne 19, 3) := by decide +kernel
theorem dX7_hypothesis_81 : decode cX7_hypothesis 81 = .ok (.aload_n 0, 1) := by decide +kernel
theorem dX7_hypothesis_82 : decode cX7_hypothesis 82 = .ok (.getfield 31, 3) := by decide +kernel
theorem dX7_hypothesis_85 : decode cX7_hypothesis 85 = .ok (.iload_n 3, 1) := by decide +kernel
theorem dX7_hypothesis_86 : decode cX7_hypothesis 86 = .ok (.iaload, 1) := by decide +kernel
theorem dX7_hypothesis_87 : decode cX7_hypothesis 87 = .ok (.aload_n 0, 1) := by decide +kernel
theorem dX7_hypothesis_88 : decode cX7_hypothesis 88 = .ok (.getfield 28, 3) := by decide +kernel
theorem dX7_hypothesis_91 : decode cX7_hypothesis 91 = .ok (.iload_n 3, 1) := by decide +kernel
theorem dX7_hypothesis_92 : decode cX7_hypothesis 92 = .ok (.iaload, 1) := by decide +kernel
theorem dX7_hypothesis_93 : decode cX7_hypothesis 93 = .ok (.isub, 1) := by decide +kernel
theorem dX7_hypothesis_94 : decode cX7_hypothesis 94 = .ok (.goto 12, 3) := by decide +kernel
theorem dX7_hypothesis_97 : decode cX7_hypothesis 97 = .ok (.aload_n 0, 1) := by decide +kernel
theorem dX7_hypothesis_98 : decode cX7_hypothesis 98 = .ok (.getfield 34, 3) := by decide +kernel
theorem dX7_hypothesis_101 : decode cX7_hypothesis 101 = .ok (.bipush 11, 2) := by decide +kernel
theorem dX7_hypothesis_103 : decode cX7_hypothesis 103 = .ok (.iload_n 3, 1) := by decide +kernel
theorem dX7_hypothesis_104 : decode cX7_hypothesis 104 = .ok (.imul, 1) := by decide +kernel
theorem dX7_hypothesis_105 : decode cX7_hypothesis 105 = .ok (.iaload, 1) := by decide +kernel
theorem dX7_hypothesis_106 : decode cX7_hypothesis 106 = .ok (.ireturn, 1) := by decide +kernel
def rX7_hypothesis : Room := { frames := 8, cells := 0, slots := 0, locals := 189 }
theorem fX7_hypothesis_50 : Cond.fieldLink RX7 50 (TX7 7).1 (TX7 7).2.1 (TX7 7).2.2.1 ∈ wsX7_hypothesis := by decide +kernel
theorem fX7_hypothesis_37 : Cond.fieldLink RX7 37 (TX7 14).1 (TX7 14).2.1 (TX7 14).2.2.1 ∈ wsX7_hypothesis := by decide +kernel
theorem fX7_hypothesis_34 : Cond.fieldLink RX7 34 (TX7 13).1 (TX7 13).2.1 (TX7 13).2.2.1 ∈ wsX7_hypothesis := by decide +kernel
theorem fX7_hypothesis_31 : Cond.fieldLink RX7 31 (TX7 12).1 (TX7 12).2.1 (TX7 12).2.2.1 ∈ wsX7_hypothesis := by decide +kernel
theorem fX7_hypothesis_28 : Cond.fieldLink RX7 28 (TX7 11).1 (TX7 11).2.1 (TX7 11).2.2.1 ∈ wsX7_hypothesis := by decide +kernel
theorem fX7_hypothesis_25 : Cond.fieldLink RX7 25 (TX7 10).1 (TX7 10).2.1 (TX7 10).2.2.1 ∈ wsX7_hypothesis := by decide +kernel
theorem iX7_hypothesis_6 : ∀ w ∈ u_ws RX7 TX7 19, w ∈ wsX7_hypothesis := by decide +kernel
theorem qX7_hypothesis_116 : Cond.constantLong RX7 116 3 ∈ wsX7_hypothesis := by decide +kernel
set_option maxRecDepth 100000 in
set_option maxHeartbeats 4000000 in
theorem tX7_hypothesis_106 {p : Program} {l : Launch} {e : Env} {s : State} {m : MethodId} {args : Array Value} {below : List Frame} {meth : Method} {c : Code} {a : Nat → Nat} {cy : Nat → ClassId} {D : va_G} {tV : Nat} {sa : Nat → Nat} (C : zC p l s m args meth c cX7_hypothesis 4 wsX7_hypothesis RX7 a cy D tV sa) (hr : meth.sig.returnType = (some .int)) {k0 : Nat} (hk0 : zk k0 = 6) {P : Int → Sto → Prop} : ∀ (y0 : Int) (σ : Sto), vX7_hypothesis_106 k0 P y0 σ → zX p l e rX7_hypothesis s m args below meth c 4 a cy D (MQ below (fun _ => zQo a cy D s.heap.size (zPI P)) args s 0 0 (zA a s.heap.size)) 0 0 σ 106 [] [.int (zI y0)] := by
  intro y0 σ hq
  unfold vX7_hypothesis_106 at hq
  exact zr_iret C hr dX7_hypothesis_106 ⟨_, rfl, hq⟩
set_option maxRecDepth 100000 in
set_option maxHeartbeats 4000000 in
theorem tX7_hypothesis_30 {p : Program} {l : Launch} {e : Env} {s : State} {m : MethodId} {args : Array Value} {below : List Frame} {meth : Method} {c : Code} {a : Nat → Nat} {cy : Nat → ClassId} {D : va_G} {tV : Nat} {sa : Nat → Nat} (C : zC p l s m args meth c cX7_hypothesis 4 wsX7_hypothesis RX7 a cy D tV sa) (hr : meth.sig.returnType = (some .int)) {k0 : Nat} (hk0 : zk k0 = 6) {P : Int → Sto → Prop} : ∀ (x1 x2 y0 : Int) (σ : Sto), vX7_hypothesis_30 k0 P x1 x2 y0 σ → zX p l e rX7_hypothesis s m args below meth c 4 a cy D (MQ below (fun _ => zQo a cy D s.heap.size (zPI P)) args s 0 0 (zA a s.heap.size)) 0 0 σ 30 [(0, .ref (a k0)), (1, .int (zI x1)), (2, .int (zI x2))] [.int (zI y0), .ref (a k0)] := by
  intro x1 x2 y0 σ hq
  unfold vX7_hypothesis_30 at hq
  refine zr_put C (zE_6 hk0) (zk_lt hk0 (by decide)) (by rw [hk0]; decide) (Cn := RX7) (T := TX7) (N := 19) rfl iX7_hypothesis_6 tyX7 tyX7_ok nmX7 7 (by decide) fX7_hypothesis_50 rfl (ty := .int) (by decide +kernel) rfl rfl (Nat.le_of_ble_eq_true rfl) (zp_6_7 hk0) dX7_hypothesis_30 rfl (fun s3 es3 => ?_)
  have hq := hq s3 es3
  refine zr_aload_n C dX7_hypothesis_33 rfl (k := 0) rfl rfl ?_
  refine zr_get C (zE_6 hk0) (zk_lt hk0 (by decide)) (Cn := RX7) (T := TX7) (N := 19) rfl iX7_hypothesis_6 7 (by decide) fX7_hypothesis_50 rfl dX7_hypothesis_34 rfl ?_
  obtain ⟨h0, hq⟩ := hq
  refine zr_if_le C (tgt := 42) dX7_hypothesis_37 (by decide) h0 rfl (fun z => ?_) (fun z => ?_)
  · have hq := hq.1 z
    refine zr_aload_n C dX7_hypothesis_42 rfl (k := 0) rfl rfl ?_
    refine zr_get C (zE_6 hk0) (zk_lt hk0 (by decide)) (Cn := RX7) (T := TX7) (N := 19) rfl iX7_hypothesis_6 14 (by decide) fX7_hypothesis_37 rfl dX7_hypothesis_43 rfl ?_
    refine zr_iload_n C dX7_hypothesis_46 rfl (k := 1) rfl rfl ?_
    obtain ⟨h0, h1, hq⟩ := hq
    refine zr_iald C (zf_6_ranked hk0) h0 h1 dX7_hypothesis_47 rfl ?_
    refine zr_istore_n C (L' := [(3, .int (zI (s3 (k0 + 10) (Int.toNat x1)))), (0, .ref (a k0)), (1, .int (zI x1)), (2, .int (zI x2))]) dX7_hypothesis_48 rfl (by decide) rfl rfl ?_
    refine zr_iload_n C dX7_hypothesis_49 rfl (k := 3) rfl rfl ?_
    obtain ⟨h0, hq⟩ := hq
    refine zr_if_ne C (tgt := 62) dX7_hypothesis_50 (by decide) h0 rfl (fun z => ?_) (fun z => ?_)
    · have hq := hq.1 z
      refine zr_iload_n C dX7_hypothesis_62 rfl (k := 3) rfl rfl ?_
      refine zr_iconst C dX7_hypothesis_63 rfl ?_
      obtain ⟨h0, hq⟩ := hq
      refine zr_icmp_ne C (tgt := 76) dX7_hypothesis_64 (by decide) h0 (zRl rfl) rfl (fun z => ?_) (fun z => ?_)
      · have hq := hq.1 z
        refine zr_iload_n C dX7_hypothesis_76 rfl (k := 3) rfl rfl ?_
        refine zr_iconst C dX7_hypothesis_77 rfl ?_
        obtain ⟨h0, hq⟩ := hq
        refine zr_icmp_ne C (tgt := 97) dX7_hypothesis_78 (by decide) h0 (zRl rfl) rfl (fun z => ?_) (fun z => ?_)
        · have hq := hq.1 z
          refine zr_aload_n C dX7_hypothesis_97 rfl (k := 1) rfl rfl ?_
          refine zr_get C (zE_6 hk0) (zk_lt hk0 (by decide)) (Cn := RX7) (T := TX7) (N := 19) rfl iX7_hypothesis_6 13 (by decide) fX7_hypothesis_34 rfl dX7_hypothesis_98 rfl ?_
          refine zr_bipush C dX7_hypothesis_101 (by decide) rfl ?_
          refine zr_iload_n C dX7_hypothesis_103 rfl (k := 0) rfl rfl ?_
          refine zr_imul C dX7_hypothesis_104 rfl ?_
          obtain ⟨h0, h1, hq⟩ := hq
          refine zr_iald C (zf_6_stems hk0) h0 h1 dX7_hypothesis_105 rfl ?_
          exact zr_sub C [] rfl (tX7_hypothesis_106 C hr hk0 _ _ hq)
        · have hq := hq.2 z
          refine zr_aload_n C dX7_hypothesis_81 rfl (k := 1) rfl rfl ?_
          refine zr_get C (zE_6 hk0) (zk_lt hk0 (by decide)) (Cn := RX7) (T := TX7) (N := 19) rfl iX7_hypothesis_6 12 (by decide) fX7_hypothesis_31 rfl dX7_hypothesis_82 rfl ?_
          refine zr_iload_n C dX7_hypothesis_85 rfl (k := 0) rfl rfl ?_
          obtain ⟨h0, h1, hq⟩ := hq
          refine zr_iald C (zf_6_formMany hk0) h0 h1 dX7_hypothesis_86 rfl ?_
          refine zr_aload_n C dX7_hypothesis_87 rfl (k := 1) rfl rfl ?_
          refine zr_get C (zE_6 hk0) (zk_lt hk0 (by decide)) (Cn := RX7) (T := TX7) (N := 19) rfl iX7_hypothesis_6 11 (by decide) fX7_hypothesis_28 rfl dX7_hypothesis_88 rfl ?_
          refine zr_iload_n C dX7_hypothesis_91 rfl (k := 0) rfl rfl ?_
          obtain ⟨h0, h1, hq⟩ := hq
          refine zr_iald C (zf_6_explained hk0) h0 h1 dX7_hypothesis_92 rfl ?_
          refine zr_isub C dX7_hypothesis_93 rfl ?_
          refine zr_goto C (tgt := 106) dX7_hypothesis_94 (by decide) ?_
          exact zr_sub C [] rfl (tX7_hypothesis_106 C hr hk0 _ _ hq)
      · have hq := hq.2 z
        refine zr_aload_n C dX7_hypothesis_67 rfl (k := 1) rfl rfl ?_
        refine zr_get C (zE_6 hk0) (zk_lt hk0 (by decide)) (Cn := RX7) (T := TX7) (N := 19) rfl iX7_hypothesis_6 11 (by decide) fX7_hypothesis_28 rfl dX7_hypothesis_68 rfl ?_
        refine zr_iload_n C dX7_hypothesis_71 rfl (k := 0) rfl rfl ?_
        obtain ⟨h0, h1, hq⟩ := hq
        refine zr_iald C (zf_6_explained hk0) h0 h1 dX7_hypothesis_72 rfl ?_
        refine zr_goto C (tgt := 106) dX7_hypothesis_73 (by decide) ?_
        exact zr_sub C [] rfl (tX7_hypothesis_106 C hr hk0 _ _ hq)
    · have hq := hq.2 z
      refine zr_aload_n C dX7_hypothesis_53 rfl (k := 1) rfl rfl ?_
      refine zr_get C (zE_6 hk0) (zk_lt hk0 (by decide)) (Cn := RX7) (T := TX7) (N := 19) rfl iX7_hypothesis_6 10 (by decide) fX7_hypothesis_25 rfl dX7_hypothesis_54 rfl ?_
      refine zr_iload_n C dX7_hypothesis_57 rfl (k := 0) rfl rfl ?_
      obtain ⟨h0, h1, hq⟩ := hq
      refine zr_iald C (zf_6_paradigms hk0) h0 h1 dX7_hypothesis_58 rfl ?_
      refine zr_goto C (tgt := 106) dX7_hypothesis_59 (by decide) ?_
      exact zr_sub C [] rfl (tX7_hypothesis_106 C hr hk0 _ _ hq)
  · have hq := hq.2 z
    refine zr_iconst C dX7_hypothesis_40 rfl ?_
    exact zr_iret C hr dX7_hypothesis_41 ⟨_, rfl, hq⟩
set_option maxRecDepth 100000 in
set_option maxHeartbeats 4000000 in
theorem mX7_hypothesis {l : Launch} {a : Nat → Nat} {cy : Nat → ClassId} {D : va_G} {tV : Nat} {sa : Nat → Nat} {P : Int → Sto → Prop} {σ : Sto} {k0 : Nat} {x1 : Int} {x2 : Int} (hk0 : zk k0 = 6) (hq : vX7_hypothesis k0 x1 x2 P σ) : zM l yX7_hypothesis wsX7_hypothesis rX7_hypothesis a cy D tV sa [.ref (a k0), .int (zI x1), .int (zI x2)] σ (zPI P) :=
  zM_of (cc := cX7_hypothesis) (maxL := 4) (ret := (some .int)) (by decide) rfl (Nat.le_of_ble_eq_true rfl) (L0 := [(0, .ref (a k0)), (1, .int (zI x1)), (2, .int (zI x2))]) rfl (fun p e s m args below meth c C hr => by
  unfold vX7_hypothesis at hq
  refine zr_aload_n C dX7_hypothesis_0 rfl (k := 0) rfl rfl ?_
  refine zr_aload_n C dX7_hypothesis_1 rfl (k := 0) rfl rfl ?_
  refine zr_iload_n C dX7_hypothesis_2 rfl (k := 1) rfl rfl ?_
  refine zr_calli (zrunV C (st := [.ref (a k0)]) (mX7_isHypothesis hk0 hq) (cwV 1 C.2.2.2.2.1 gX7_hypothesis_X7_isHypothesis rfl rfl rfl (by decide +kernel) ⟨Nat.le_of_ble_eq_true rfl, Nat.le_of_ble_eq_true rfl⟩) (zE_6 hk0) (zk_lt hk0 (by decide)) (T := TX7) (N := 19) rfl rfl rfl (Nat.le_of_ble_eq_true rfl) dX7_hypothesis_3 ⟨Nat.zero_le _, Nat.zero_le _⟩) rfl (fun r1 s1 hq => ?_)
  obtain ⟨h0, hq⟩ := hq
  refine zr_if_ne C (tgt := 13) dX7_hypothesis_6 (by decide) h0 rfl (fun z => ?_) (fun z => ?_)
  · have hq := hq.1 z
    refine zr_iload_n C dX7_hypothesis_13 rfl (k := 2) rfl rfl ?_
    obtain ⟨h0, hq⟩ := hq
    refine zr_i2l C dX7_hypothesis_14 h0 rfl ?_
    refine zr_lconst C (x := 0) dX7_hypothesis_15 rfl rfl ?_
    refine zr_ldc2 C (x := 3) qX7_hypothesis_116 (by decide +kernel) dX7_hypothesis_16 rfl ?_
    refine zr_calli (zrunS C (st := [.ref (a k0)]) (mX7_in  hq) (va_cwS 3 C.2.2.2.2.1 gX7_hypothesis_X7_in rfl rfl rfl (by decide +kernel) ⟨Nat.le_of_ble_eq_true rfl, Nat.le_of_ble_eq_true rfl⟩) rfl rfl (Nat.le_of_ble_eq_true rfl) dX7_hypothesis_19 ⟨Nat.zero_le _, Nat.zero_le _⟩) rfl (fun r2 s2 hq => ?_)
    obtain ⟨h0, hq⟩ := hq
    refine zr_if_ne C (tgt := 29) dX7_hypothesis_22 (by decide) h0 rfl (fun z => ?_) (fun z => ?_)
    · have hq := hq.1 z
      refine zr_iconst C dX7_hypothesis_29 rfl ?_
      exact zr_sub C [0, 1, 2] rfl (tX7_hypothesis_30 C hr hk0 _ _ _ _ hq)
    · have hq := hq.2 z
      refine zr_iconst C dX7_hypothesis_25 rfl ?_
      refine zr_goto C (tgt := 30) dX7_hypothesis_26 (by decide) ?_
      exact zr_sub C [0, 1, 2] rfl (tX7_hypothesis_30 C hr hk0 _ _ _ _ hq)
  · have hq := hq.2 z
    refine zr_iconst C dX7_hypothesis_9 rfl ?_
    refine zr_goto C (tgt := 30) dX7_hypothesis_10 (by decide) ?_
    exact zr_sub C [0, 1, 2] rfl (tX7_hypothesis_30 C hr hk0 _ _ _ _ hq))
/-! InflectionGuesserModel.stemLetter(II)C -/
set_option maxRecDepth 20000 in
theorem ggX7_stemLetter_X7_in : GoodIn wsX7_stemLetter wsX7_in := goodIn_r _ [66] (by decide +kernel) (by decide +kernel)
set_option maxRecDepth 20000 in
theorem gX7_stemLetter_X7_in : GoodIn wsX7_stemLetter (va_wsS RX7 58 yX7_in wsX7_in) := goodIn_app (goodIn_of _ (by decide +kernel)) ggX7_stemLetter_X7_in
set_option maxRecDepth 20000 in
theorem ggX7_stemLetter_X7_isHypothesis : GoodIn wsX7_stemLetter wsX7_isHypothesis := goodIn_r _ [8, 9, 10, 11, 12, 7, 13, 14, 15, 16, 17, 18, 19, 20, 21, 22, 23, 24, 25, 26, 27, 28, 29, 30, 31, 32, 33, 34, 35, 36, 37, 38, 39, 40, 41, 42, 43, 44, 45, 46, 47, 48, 49, 50, 51, 52, 53, 1, 54, 55, 56, 57, 2, 58, 59, 60, 61, 62, 63, 64, 65, 66, 67, 68, 69, 70, 71, 72, 73, 74, 75, 76, 77, 78, 79, 80, 81, 82, 83, 84, 85, 86, 87, 88, 89, 90, 91, 92, 93, 94, 95, 96, 97, 98, 99, 100, 101, 102, 103, 104, 105, 106, 107, 108, 109, 110, 111] (by decide +kernel) (by decide +kernel)
set_option maxRecDepth 20000 in
theorem gX7_stemLetter_X7_isHypothesis : GoodIn wsX7_stemLetter (wsV RX7 196 RX7 yX7_isHypothesis wsX7_isHypothesis) := goodIn_app (goodIn_of _ (by decide +kernel)) ggX7_stemLetter_X7_isHypothesis
theorem dX7_stemLetter_0 : decode cX7_stemLetter 0 = .ok (.aload_n 0, 1) := by decide +kernel
theorem dX7_stemLetter_1 : decode cX7_stemLetter 1 = .ok (.aload_n 0, 1) := by decide +kernel
theorem dX7_stemLetter_2 : decode cX7_stemLetter 2 = .ok (.iload_n 1, 1) := by decide +kernel
theorem dX7_stemLetter_3 : decode cX7_stemLetter 3 = .ok (.invokevirtual 196, 3) := by decide +kernel
theorem dX7_stemLetter_6 : decode cX7_stemLetter 6 = .ok (.ifCond .eq 33, 3) := by decide +kernel
theorem dX7_stemLetter_9 : decode cX7_stemLetter 9 = .ok (.iload_n 2, 1) := by decide +kernel
theorem dX7_stemLetter_10 : decode cX7_stemLetter 10 = .ok (.i2l, 1) := by decide +kernel
theorem dX7_stemLetter_11 : decode cX7_stemLetter 11 = .ok (.lconst 0, 1) := by decide +kernel
theorem dX7_stemLetter_12 : decode cX7_stemLetter 12 = .ok (.aload_n 0, 1) := by decide +kernel
theorem dX7_stemLetter_13 : decode cX7_stemLetter 13 = .ok (.getfield 34, 3) := by decide +kernel
theorem dX7_stemLetter_16 : decode cX7_stemLetter 16 = .ok (.bipush 11, 2) := by decide +kernel
theorem dX7_stemLetter_18 : decode cX7_stemLetter 18 = .ok (.aload_n 0, 1) := by decide +kernel
theorem dX7_stemLetter_19 : decode cX7_stemLetter 19 = .ok (.getfield 37, 3) := by decide +kernel
theorem dX7_stemLetter_22 : decode cX7_stemLetter 22 = .ok (.iload_n 1, 1) := by decide +kernel
theorem dX7_stemLetter_23 : decode cX7_stemLetter 23 = .ok (.iaload, 1) := by decide +kernel
theorem dX7_stemLetter_24 : decode cX7_stemLetter 24 = .ok (.imul, 1) := by decide +kernel
theorem dX7_stemLetter_25 : decode cX7_stemLetter 25 = .ok (.iaload, 1) := by decide +kernel
theorem dX7_stemLetter_26 : decode cX7_stemLetter 26 = .ok (.iconst 1, 1) := by decide +kernel
theorem dX7_stemLetter_27 : decode cX7_stemLetter 27 = .ok (.isub, 1) := by decide +kernel
theorem dX7_stemLetter_28 : decode cX7_stemLetter 28 = .ok (.i2l, 1) := by decide +kernel
theorem dX7_stemLetter_29 : decode cX7_stemLetter 29 = .ok (.invokestatic 58, 3) := by decide +kernel
theorem dX7_stemLetter_32 : decode cX7_stemLetter 32 = .ok (.ifCond .eq 7, 3) := by decide +kernel
theorem dX7_stemLetter_35 : decode cX7_stemLetter 35 = .ok (.iconst 0, 1) := by decide +kernel
theorem dX7_stemLetter_36 : decode cX7_stemLetter 36 = .ok (.goto 4, 3) := by decide +kernel
theorem dX7_stemLetter_39 : decode cX7_stemLetter 39 = .ok (.iconst 1, 1) := by decide +kernel
theorem dX7_stemLetter_40 : decode cX7_stemLetter 40 = .ok (.putfield 50, 3) := by decide +kernel
theorem dX7_stemLetter_43 : decode cX7_stemLetter 43 = .ok (.aload_n 0, 1) := by decide +kernel
theorem dX7_stemLetter_44 : decode cX7_stemLetter 44 = .ok (.getfield 50, 3) := by decide +kernel
theorem dX7_stemLetter_47 : decode cX7_stemLetter 47 = .ok (.ifCond .le 7, 3) := by decide +kernel
theorem dX7_stemLetter_50 : decode cX7_stemLetter 50 = .ok (.iconst 0, 1) := by decide +kernel
theorem dX7_stemLetter_51 : decode cX7_stemLetter 51 = .ok (.goto 22, 3) := by decide +kernel
theorem dX7_stemLetter_54 : decode cX7_stemLetter 54 = .ok (.aload_n 0, 1) := by decide +kernel
theorem dX7_stemLetter_55 : decode cX7_stemLetter 55 = .ok (.getfield 34, 3) := by decide +kernel
theorem dX7_stemLetter_58 : decode cX7_stemLetter 58 = .ok (.bipush 11, 2) := by decide +kernel
theorem dX7_stemLetter_60 : decode cX7_stemLetter 60 = .ok (.aload_n 0, 1) := by decide +kernel
theorem dX7_stemLetter_61 : decode cX7_stemLetter 61 = .ok (.getfield 37, 3) := by decide +kernel
theorem dX7_stemLetter_64 : decode cX7_stemLetter 64 = .ok (.iload_n 1, 1) := by decide +kernel
theorem dX7_stemLetter_65 : decode cX7_stemLetter 65 = .ok (.iaload, 1) := by decide +kernel
theorem dX7_stemLetter_66 : decode cX7_stemLetter 66 = .ok (.imul, 1) := by decide +kernel
theorem dX7_stemLetter_67 : decode cX7_stemLetter 67 = .ok (.iconst 1, 1) := by decide +kernel
theorem dX7_stemLetter_68 : decode cX7_stemLetter 68 = .ok (.iadd, 1) := by decide +kernel
theorem dX7_stemLetter_69 : decode cX7_stemLetter 69 = .ok (.iload_n 2, 1) := by decide +kernel
theorem dX7_stemLetter_70 : decode cX7_stemLetter 70 = .ok (.iadd, 1) := by decide +kernel
theorem dX7_stemLetter_71 : decode cX7_stemLetter 71 = .ok (.iaload, 1) := by decide +kernel
theorem dX7_stemLetter_72 : decode cX7_stemLetter 72 = .ok (.i2c, 1) := by decide +kernel
theorem dX7_stemLetter_73 : decode cX7_stemLetter 73 = .ok (.ireturn, 1) := by decide +kernel
def rX7_stemLetter : Room := { frames := 8, cells := 0, slots := 0, locals := 189 }
theorem fX7_stemLetter_50 : Cond.fieldLink RX7 50 (TX7 7).1 (TX7 7).2.1 (TX7 7).2.2.1 ∈ wsX7_stemLetter := by decide +kernel
theorem fX7_stemLetter_34 : Cond.fieldLink RX7 34 (TX7 13).1 (TX7 13).2.1 (TX7 13).2.2.1 ∈ wsX7_stemLetter := by decide +kernel
theorem fX7_stemLetter_37 : Cond.fieldLink RX7 37 (TX7 14).1 (TX7 14).2.1 (TX7 14).2.2.1 ∈ wsX7_stemLetter := by decide +kernel
theorem iX7_stemLetter_6 : ∀ w ∈ u_ws RX7 TX7 19, w ∈ wsX7_stemLetter := by decide +kernel
set_option maxRecDepth 100000 in
set_option maxHeartbeats 4000000 in
theorem tX7_stemLetter_73 {p : Program} {l : Launch} {e : Env} {s : State} {m : MethodId} {args : Array Value} {below : List Frame} {meth : Method} {c : Code} {a : Nat → Nat} {cy : Nat → ClassId} {D : va_G} {tV : Nat} {sa : Nat → Nat} (C : zC p l s m args meth c cX7_stemLetter 3 wsX7_stemLetter RX7 a cy D tV sa) (hr : meth.sig.returnType = (some .char)) {k0 : Nat} (hk0 : zk k0 = 6) {P : Int → Sto → Prop} : ∀ (y0 : Int) (σ : Sto), vX7_stemLetter_73 k0 P y0 σ → zX p l e rX7_stemLetter s m args below meth c 3 a cy D (MQ below (fun _ => zQo a cy D s.heap.size (zPI P)) args s 0 0 (zA a s.heap.size)) 0 0 σ 73 [] [.int (zI y0)] := by
  intro y0 σ hq
  unfold vX7_stemLetter_73 at hq
  obtain ⟨h0, h1, hq⟩ := hq
  exact zr_zret C hr (znr_c h0 h1) dX7_stemLetter_73 ⟨_, rfl, hq⟩
set_option maxRecDepth 100000 in
set_option maxHeartbeats 4000000 in
theorem tX7_stemLetter_40 {p : Program} {l : Launch} {e : Env} {s : State} {m : MethodId} {args : Array Value} {below : List Frame} {meth : Method} {c : Code} {a : Nat → Nat} {cy : Nat → ClassId} {D : va_G} {tV : Nat} {sa : Nat → Nat} (C : zC p l s m args meth c cX7_stemLetter 3 wsX7_stemLetter RX7 a cy D tV sa) (hr : meth.sig.returnType = (some .char)) {k0 : Nat} (hk0 : zk k0 = 6) {P : Int → Sto → Prop} : ∀ (x1 x2 y0 : Int) (σ : Sto), vX7_stemLetter_40 k0 P x1 x2 y0 σ → zX p l e rX7_stemLetter s m args below meth c 3 a cy D (MQ below (fun _ => zQo a cy D s.heap.size (zPI P)) args s 0 0 (zA a s.heap.size)) 0 0 σ 40 [(0, .ref (a k0)), (1, .int (zI x1)), (2, .int (zI x2))] [.int (zI y0), .ref (a k0)] := by
  intro x1 x2 y0 σ hq
  unfold vX7_stemLetter_40 at hq
  refine zr_put C (zE_6 hk0) (zk_lt hk0 (by decide)) (by rw [hk0]; decide) (Cn := RX7) (T := TX7) (N := 19) rfl iX7_stemLetter_6 tyX7 tyX7_ok nmX7 7 (by decide) fX7_stemLetter_50 rfl (ty := .int) (by decide +kernel) rfl rfl (Nat.le_of_ble_eq_true rfl) (zp_6_7 hk0) dX7_stemLetter_40 rfl (fun s2 es2 => ?_)
  have hq := hq s2 es2
  refine zr_aload_n C dX7_stemLetter_43 rfl (k := 0) rfl rfl ?_
  refine zr_get C (zE_6 hk0) (zk_lt hk0 (by decide)) (Cn := RX7) (T := TX7) (N := 19) rfl iX7_stemLetter_6 7 (by decide) fX7_stemLetter_50 rfl dX7_stemLetter_44 rfl ?_
  obtain ⟨h0, hq⟩ := hq
  refine zr_if_le C (tgt := 54) dX7_stemLetter_47 (by decide) h0 rfl (fun z => ?_) (fun z => ?_)
  · have hq := hq.1 z
    refine zr_aload_n C dX7_stemLetter_54 rfl (k := 0) rfl rfl ?_
    refine zr_get C (zE_6 hk0) (zk_lt hk0 (by decide)) (Cn := RX7) (T := TX7) (N := 19) rfl iX7_stemLetter_6 13 (by decide) fX7_stemLetter_34 rfl dX7_stemLetter_55 rfl ?_
    refine zr_bipush C dX7_stemLetter_58 (by decide) rfl ?_
    refine zr_aload_n C dX7_stemLetter_60 rfl (k := 0) rfl rfl ?_
    refine zr_get C (zE_6 hk0) (zk_lt hk0 (by decide)) (Cn := RX7) (T := TX7) (N := 19) rfl iX7_stemLetter_6 14 (by decide) fX7_stemLetter_37 rfl dX7_stemLetter_61 rfl ?_
    refine zr_iload_n C dX7_stemLetter_64 rfl (k := 1) rfl rfl ?_
    obtain ⟨h0, h1, hq⟩ := hq
    refine zr_iald C (zf_6_ranked hk0) h0 h1 dX7_stemLetter_65 rfl ?_
    refine zr_imul C dX7_stemLetter_66 rfl ?_
    refine zr_iconst C dX7_stemLetter_67 rfl ?_
    refine zr_iadd C dX7_stemLetter_68 rfl ?_
    refine zr_iload_n C dX7_stemLetter_69 rfl (k := 2) rfl rfl ?_
    refine zr_iadd C dX7_stemLetter_70 rfl ?_
    obtain ⟨h0, h1, hq⟩ := hq
    refine zr_iald C (zf_6_stems hk0) h0 h1 dX7_stemLetter_71 rfl ?_
    refine zr_i2c C dX7_stemLetter_72 rfl ?_
    exact zr_sub C [] rfl (tX7_stemLetter_73 C hr hk0 _ _ hq)
  · have hq := hq.2 z
    refine zr_iconst C dX7_stemLetter_50 rfl ?_
    refine zr_goto C (tgt := 73) dX7_stemLetter_51 (by decide) ?_
    exact zr_sub C [] rfl (tX7_stemLetter_73 C hr hk0 _ _ hq)
set_option maxRecDepth 100000 in
set_option maxHeartbeats 4000000 in
theorem tX7_stemLetter_39 {p : Program} {l : Launch} {e : Env} {s : State} {m : MethodId} {args : Array Value} {below : List Frame} {meth : Method} {c : Code} {a : Nat → Nat} {cy : Nat → ClassId} {D : va_G} {tV : Nat} {sa : Nat → Nat} (C : zC p l s m args meth c cX7_stemLetter 3 wsX7_stemLetter RX7 a cy D tV sa) (hr : meth.sig.returnType = (some .char)) {k0 : Nat} (hk0 : zk k0 = 6) {P : Int → Sto → Prop} : ∀ (x1 x2 : Int) (σ : Sto), vX7_stemLetter_39 k0 P x1 x2 σ → zX p l e rX7_stemLetter s m args below meth c 3 a cy D (MQ below (fun _ => zQo a cy D s.heap.size (zPI P)) args s 0 0 (zA a s.heap.size)) 0 0 σ 39 [(0, .ref (a k0)), (1, .int (zI x1)), (2, .int (zI x2))] [.ref (a k0)] := by
  intro x1 x2 σ hq
  unfold vX7_stemLetter_39 at hq
  refine zr_iconst C dX7_stemLetter_39 rfl ?_
  exact zr_sub C [0, 1, 2] rfl (tX7_stemLetter_40 C hr hk0 _ _ _ _ hq)
set_option maxRecDepth 100000 in
set_option maxHeartbeats 4000000 in
theorem mX7_stemLetter {l : Launch} {a : Nat → Nat} {cy : Nat → ClassId} {D : va_G} {tV : Nat} {sa : Nat → Nat} {P : Int → Sto → Prop} {σ : Sto} {k0 : Nat} {x1 : Int} {x2 : Int} (hk0 : zk k0 = 6) (hq : vX7_stemLetter k0 x1 x2 P σ) : zM l yX7_stemLetter wsX7_stemLetter rX7_stemLetter a cy D tV sa [.ref (a k0), .int (zI x1), .int (zI x2)] σ (zPI P) :=
  zM_of (cc := cX7_stemLetter) (maxL := 3) (ret := (some .char)) (by decide) rfl (Nat.le_of_ble_eq_true rfl) (L0 := [(0, .ref (a k0)), (1, .int (zI x1)), (2, .int (zI x2))]) rfl (fun p e s m args below meth c C hr => by
  unfold vX7_stemLetter at hq
  refine zr_aload_n C dX7_stemLetter_0 rfl (k := 0) rfl rfl ?_
  refine zr_aload_n C dX7_stemLetter_1 rfl (k := 0) rfl rfl ?_
  refine zr_iload_n C dX7_stemLetter_2 rfl (k := 1) rfl rfl ?_
  refine zr_calli (zrunV C (st := [.ref (a k0)]) (mX7_isHypothesis hk0 hq) (cwV 1 C.2.2.2.2.1 gX7_stemLetter_X7_isHypothesis rfl rfl rfl (by decide +kernel) ⟨Nat.le_of_ble_eq_true rfl, Nat.le_of_ble_eq_true rfl⟩) (zE_6 hk0) (zk_lt hk0 (by decide)) (T := TX7) (N := 19) rfl rfl rfl (Nat.le_of_ble_eq_true rfl) dX7_stemLetter_3 ⟨Nat.zero_le _, Nat.zero_le _⟩) rfl (fun r1 s1 hq => ?_)
  obtain ⟨h0, hq⟩ := hq
  refine zr_if_eq C (tgt := 39) dX7_stemLetter_6 (by decide) h0 rfl (fun z => ?_) (fun z => ?_)
  · have hq := hq.1 z
    exact zr_sub C [0, 1, 2] rfl (tX7_stemLetter_39 C hr hk0 _ _ _ hq)
  · have hq := hq.2 z
    refine zr_iload_n C dX7_stemLetter_9 rfl (k := 2) rfl rfl ?_
    obtain ⟨h0, hq⟩ := hq
    refine zr_i2l C dX7_stemLetter_10 h0 rfl ?_
    refine zr_lconst C (x := 0) dX7_stemLetter_11 rfl rfl ?_
    refine zr_aload_n C dX7_stemLetter_12 rfl (k := 0) rfl rfl ?_
    refine zr_get C (zE_6 hk0) (zk_lt hk0 (by decide)) (Cn := RX7) (T := TX7) (N := 19) rfl iX7_stemLetter_6 13 (by decide) fX7_stemLetter_34 rfl dX7_stemLetter_13 rfl ?_
    refine zr_bipush C dX7_stemLetter_16 (by decide) rfl ?_
    refine zr_aload_n C dX7_stemLetter_18 rfl (k := 0) rfl rfl ?_
    refine zr_get C (zE_6 hk0) (zk_lt hk0 (by decide)) (Cn := RX7) (T := TX7) (N := 19) rfl iX7_stemLetter_6 14 (by decide) fX7_stemLetter_37 rfl dX7_stemLetter_19 rfl ?_
    refine zr_iload_n C dX7_stemLetter_22 rfl (k := 1) rfl rfl ?_
    obtain ⟨h0, h1, hq⟩ := hq
    refine zr_iald C (zf_6_ranked hk0) h0 h1 dX7_stemLetter_23 rfl ?_
    refine zr_imul C dX7_stemLetter_24 rfl ?_
    obtain ⟨h0, h1, hq⟩ := hq
    refine zr_iald C (zf_6_stems hk0) h0 h1 dX7_stemLetter_25 rfl ?_
    refine zr_iconst C dX7_stemLetter_26 rfl ?_
    refine zr_isub C dX7_stemLetter_27 rfl ?_
    obtain ⟨h0, hq⟩ := hq
    refine zr_i2l C dX7_stemLetter_28 h0 rfl ?_
    refine zr_calli (zrunS C (st := [.ref (a k0)]) (mX7_in  hq) (va_cwS 3 C.2.2.2.2.1 gX7_stemLetter_X7_in rfl rfl rfl (by decide +kernel) ⟨Nat.le_of_ble_eq_true rfl, Nat.le_of_ble_eq_true rfl⟩) rfl rfl (Nat.le_of_ble_eq_true rfl) dX7_stemLetter_29 ⟨Nat.zero_le _, Nat.zero_le _⟩) rfl (fun r3 s3 hq => ?_)
    obtain ⟨h0, hq⟩ := hq
    refine zr_if_eq C (tgt := 39) dX7_stemLetter_32 (by decide) h0 rfl (fun z => ?_) (fun z => ?_)
    · have hq := hq.1 z
      exact zr_sub C [0, 1, 2] rfl (tX7_stemLetter_39 C hr hk0 _ _ _ hq)
    · have hq := hq.2 z
      refine zr_iconst C dX7_stemLetter_35 rfl ?_
      refine zr_goto C (tgt := 40) dX7_stemLetter_36 (by decide) ?_
      exact zr_sub C [0, 1, 2] rfl (tX7_stemLetter_40 C hr hk0 _ _ _ _ hq))
