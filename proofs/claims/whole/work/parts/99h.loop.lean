/-! THE LAW: its loop -/
theorem dL_law_28 : decode cL_law 28 = .ok (.iload 5, 2) := by decide +kernel
theorem dL_law_30 : decode cL_law 30 = .ok (.aload_n 0, 1) := by decide +kernel
theorem dL_law_31 : decode cL_law 31 = .ok (.arraylength, 1) := by decide +kernel
theorem dL_law_32 : decode cL_law 32 = .ok (.iconst 4, 1) := by decide +kernel
theorem dL_law_33 : decode cL_law 33 = .ok (.isub, 1) := by decide +kernel
theorem dL_law_34 : decode cL_law 34 = .ok (.if_icmp .gt 2348, 3) := by decide +kernel
theorem dL_law_37 : decode cL_law 37 = .ok (.aload_n 0, 1) := by decide +kernel
theorem dL_law_38 : decode cL_law 38 = .ok (.iload 5, 2) := by decide +kernel
theorem dL_law_40 : decode cL_law 40 = .ok (.iaload, 1) := by decide +kernel
theorem dL_law_41 : decode cL_law 41 = .ok (.bipush 63, 2) := by decide +kernel
theorem dL_law_43 : decode cL_law 43 = .ok (.iand, 1) := by decide +kernel
theorem dL_law_44 : decode cL_law 44 = .ok (.tableswitch 2332 0 40 #[180, 238, 251, 307, 351, 364, 444, 500, 556, 636, 716, 779, 847, 891, 947, 960, 1016, 1084, 1140, 1196, 1209, 1277, 1345, 1420, 1476, 1553, 1609, 1622, 1635, 1703, 1759, 1827, 1895, 1963, 2038, 2094, 2162, 2175, 2231, 2275, 2288], 180) := by decide +kernel
theorem dL_law_2376 : decode cL_law 2376 = .ok (.iinc 5 4, 3) := by decide +kernel
theorem dL_law_2379 : decode cL_law 2379 = .ok (.goto (-2351), 3) := by decide +kernel
theorem dL_law_2382 : decode cL_law 2382 = .ok (.iconst 1, 1) := by decide +kernel
theorem dL_law_2383 : decode cL_law 2383 = .ok (.ireturn, 1) := by decide +kernel
def lwL (a : Nat → Nat) (b : Nat) (i : Int) : List (Nat × Value) := [(5, .int (zI i)), (4, .ref (a 298)), (3, .ref (a 297)), (2, .ref (a 283)), (1, .ref (a 0)), (0, .ref b)]
set_option maxRecDepth 100000 in
set_option maxHeartbeats 4000000 in
theorem law_loop {p : Program} {l : Launch} {e : Env} {s : State} {m : MethodId} {args : Array Value} {below : List Frame} {meth : Method} {c : Code} {a : Nat → Nat} {cy : Nat → ClassId} {D : va_G} {tV : Nat} {sa : Nat → Nat} {Q : State → Prop} {b Ln : Nat} {xs : Nat → Int32} (hl : l.stackTraces = false) (C : zC p l s m args meth c cL_law 9 wsL_law RL a cy D tV sa) (hX : va_X b Ln xs s s.heap) (hb : b < s.heap.size) (hbA : ¬ zA a s.heap.size b) (hLn : Ln ≤ 2048)
    (hend : ∀ (cells slots : Nat) (σ : Sto) (L : List (Nat × Value)), cells ≤ 601024 → slots ≤ 7293034 → zX p l e room_1 s m args below meth c 9 a cy D Q cells slots σ 2383 L [.int (zI 1)]) :
    ∀ (n q : Nat) (σ : Sto), 4 * q ≤ Ln → Ln - 4 * q < n → LI σ → zX p l e room_1 s m args below meth c 9 a cy D Q (299 + 4 * q) (126660 + 24 * q) σ 28 (lwL a b ((4 * q : Nat) : Int)) [] := by
  intro n
  induction n with
  | zero => intro q σ a1 a2; omega
  | succ n ih =>
    intro q σ a1 a2 hLI
    have hiR : zR ((4 * q : Nat) : Int) := zR_s (by omega) (by omega)
    refine zr_iload C dL_law_28 (k := 0) rfl rfl ?_
    refine zr_aload_n C dL_law_30 rfl (k := 5) rfl rfl ?_
    refine zl_slen C hX hb hbA dL_law_31 rfl ?_
    refine zr_iconst C dL_law_32 rfl ?_
    refine zr_isub C dL_law_33 rfl ?_
    refine zr_icmp_gt C (tgt := 2382) dL_law_34 (by decide) hiR (zR_s (by omega) (by omega)) rfl (fun z => ?_) (fun z => ?_)
    · refine zr_iconst C dL_law_2382 rfl ?_
      exact hend _ _ _ _ (by omega) (by omega)
    · have hi : 4 * q + 4 ≤ Ln := by omega
      have hK : ∀ σ', LI σ' → zX p l e room_1 s m args below meth c 9 a cy D Q (299 + 4 * q + 4) (126660 + 24 * q + 24) σ' 2376 [(5, .int (zI ((4 * q : Nat) : Int))), (4, .ref (a 298)), (3, .ref (a 297)), (2, .ref (a 283)), (1, .ref (a 0)), (0, .ref b)] [] := fun σ' h => by
        refine zr_iinc C (L' := [(5, .int (zI (((4 * q : Nat) : Int) + 4))), (4, .ref (a 298)), (3, .ref (a 297)), (2, .ref (a 283)), (1, .ref (a 0)), (0, .ref b)]) dL_law_2376 (k := 0) rfl (by decide) rfl rfl ?_
        refine zr_goto C (tgt := 28) dL_law_2379 (by decide) ?_
        have := ih (q + 1) σ' (by omega) (by omega) h
        rw [show ((4 * (q + 1) : Nat) : Int) = ((4 * q : Nat) : Int) + 4 by omega] at this
        exact this
      have c1 : 299 + 4 * q + 4 ≤ room_1.cells := by show _ ≤ 601024; omega
      have c2 : 126660 + 24 * q + 24 ≤ room_1.slots := by show _ ≤ 7293034; omega
      refine zr_aload_n C dL_law_37 rfl (k := 5) rfl rfl ?_
      refine zr_iload C dL_law_38 (k := 0) rfl rfl ?_
      refine zl_sld C hX hb hbA (by omega) (by omega) hLn dL_law_40 rfl ?_
      refine zr_bipush C dL_law_41 (by decide) rfl ?_
      refine zr_iand C dL_law_43 rfl ?_
      have zr : zR (zand (xs (Int.toNat ((4 * q : Nat) : Int))).toInt 63) := zR_to _
      generalize zand (xs (Int.toNat ((4 * q : Nat) : Int))).toInt 63 = z at zr
      rcases (show z = 0 ∨ z = 1 ∨ z = 2 ∨ z = 3 ∨ z = 4 ∨ z = 5 ∨ z = 6 ∨ z = 7 ∨ z = 8 ∨ z = 9 ∨ z = 10 ∨ z = 11 ∨ z = 12 ∨ z = 13 ∨ z = 14 ∨ z = 15 ∨ z = 16 ∨ z = 17 ∨ z = 18 ∨ z = 19 ∨ z = 20 ∨ z = 21 ∨ z = 22 ∨ z = 23 ∨ z = 24 ∨ z = 25 ∨ z = 26 ∨ z = 27 ∨ z = 28 ∨ z = 29 ∨ z = 30 ∨ z = 31 ∨ z = 32 ∨ z = 33 ∨ z = 34 ∨ z = 35 ∨ z = 36 ∨ z = 37 ∨ z = 38 ∨ z = 39 ∨ z = 40 ∨ (z < 0 ∨ 40 < z) by omega) with h | h | h | h | h | h | h | h | h | h | h | h | h | h | h | h | h | h | h | h | h | h | h | h | h | h | h | h | h | h | h | h | h | h | h | h | h | h | h | h | h | h
      · refine zr_tswIn C (tgt := 224) 0 dL_law_44 zr (by omega) (by omega) rfl (by decide) ?_
        exact law_0 hl C hX hb hbA hLn c1 c2 hLI hi hK
      · refine zr_tswIn C (tgt := 282) 1 dL_law_44 zr (by omega) (by omega) rfl (by decide) ?_
        exact law_1 hl C hX hb hbA hLn c1 c2 hLI hi hK
      · refine zr_tswIn C (tgt := 295) 2 dL_law_44 zr (by omega) (by omega) rfl (by decide) ?_
        exact law_2 hl C hX hb hbA hLn c1 c2 hLI hi hK
      · refine zr_tswIn C (tgt := 351) 3 dL_law_44 zr (by omega) (by omega) rfl (by decide) ?_
        exact law_3 hl C hX hb hbA hLn c1 c2 hLI hi hK
      · refine zr_tswIn C (tgt := 395) 4 dL_law_44 zr (by omega) (by omega) rfl (by decide) ?_
        exact law_4 hl C hX hb hbA hLn c1 c2 hLI hi hK
      · refine zr_tswIn C (tgt := 408) 5 dL_law_44 zr (by omega) (by omega) rfl (by decide) ?_
        exact law_5 hl C hX hb hbA hLn c1 c2 hLI hi hK
      · refine zr_tswIn C (tgt := 488) 6 dL_law_44 zr (by omega) (by omega) rfl (by decide) ?_
        exact law_6 hl C hX hb hbA hLn c1 c2 hLI hi hK
      · refine zr_tswIn C (tgt := 544) 7 dL_law_44 zr (by omega) (by omega) rfl (by decide) ?_
        exact law_7 hl C hX hb hbA hLn c1 c2 hLI hi hK
      · refine zr_tswIn C (tgt := 600) 8 dL_law_44 zr (by omega) (by omega) rfl (by decide) ?_
        exact law_8 hl C hX hb hbA hLn c1 c2 hLI hi hK
      · refine zr_tswIn C (tgt := 680) 9 dL_law_44 zr (by omega) (by omega) rfl (by decide) ?_
        exact law_9 hl C hX hb hbA hLn c1 c2 hLI hi hK
      · refine zr_tswIn C (tgt := 760) 10 dL_law_44 zr (by omega) (by omega) rfl (by decide) ?_
        exact law_10 hl C hX hb hbA hLn c1 c2 hLI hi hK
      · refine zr_tswIn C (tgt := 823) 11 dL_law_44 zr (by omega) (by omega) rfl (by decide) ?_
        exact law_11 hl C hX hb hbA hLn c1 c2 hLI hi hK
      · refine zr_tswIn C (tgt := 891) 12 dL_law_44 zr (by omega) (by omega) rfl (by decide) ?_
        exact law_12 hl C hX hb hbA hLn c1 c2 hLI hi hK
      · refine zr_tswIn C (tgt := 935) 13 dL_law_44 zr (by omega) (by omega) rfl (by decide) ?_
        exact law_13 hl C hX hb hbA hLn c1 c2 hLI hi hK
      · refine zr_tswIn C (tgt := 991) 14 dL_law_44 zr (by omega) (by omega) rfl (by decide) ?_
        exact law_14 hl C hX hb hbA hLn c1 c2 hLI hi hK
      · refine zr_tswIn C (tgt := 1004) 15 dL_law_44 zr (by omega) (by omega) rfl (by decide) ?_
        exact law_15 hl C hX hb hbA hLn c1 c2 hLI hi hK
      · refine zr_tswIn C (tgt := 1060) 16 dL_law_44 zr (by omega) (by omega) rfl (by decide) ?_
        exact law_16 hl C hX hb hbA hLn c1 c2 hLI hi hK
      · refine zr_tswIn C (tgt := 1128) 17 dL_law_44 zr (by omega) (by omega) rfl (by decide) ?_
        exact law_17 hl C hX hb hbA hLn c1 c2 hLI hi hK
      · refine zr_tswIn C (tgt := 1184) 18 dL_law_44 zr (by omega) (by omega) rfl (by decide) ?_
        exact law_18 hl C hX hb hbA hLn c1 c2 hLI hi hK
      · refine zr_tswIn C (tgt := 1240) 19 dL_law_44 zr (by omega) (by omega) rfl (by decide) ?_
        exact law_19 hl C hX hb hbA hLn c1 c2 hLI hi hK
      · refine zr_tswIn C (tgt := 1253) 20 dL_law_44 zr (by omega) (by omega) rfl (by decide) ?_
        exact law_20 hl C hX hb hbA hLn c1 c2 hLI hi hK
      · refine zr_tswIn C (tgt := 1321) 21 dL_law_44 zr (by omega) (by omega) rfl (by decide) ?_
        exact law_21 hl C hX hb hbA hLn c1 c2 hLI hi hK
      · refine zr_tswIn C (tgt := 1389) 22 dL_law_44 zr (by omega) (by omega) rfl (by decide) ?_
        exact law_22 hl C hX hb hbA hLn c1 c2 hLI hi hK
      · refine zr_tswIn C (tgt := 1464) 23 dL_law_44 zr (by omega) (by omega) rfl (by decide) ?_
        exact law_23 hl C hX hb hbA hLn c1 c2 hLI hi hK
      · refine zr_tswIn C (tgt := 1520) 24 dL_law_44 zr (by omega) (by omega) rfl (by decide) ?_
        exact law_24 hl C hX hb hbA hLn c1 c2 hLI hi hK
      · refine zr_tswIn C (tgt := 1597) 25 dL_law_44 zr (by omega) (by omega) rfl (by decide) ?_
        exact law_25 hl C hX hb hbA hLn c1 c2 hLI hi hK
      · refine zr_tswIn C (tgt := 1653) 26 dL_law_44 zr (by omega) (by omega) rfl (by decide) ?_
        exact law_26 hl C hX hb hbA hLn c1 c2 hLI hi hK
      · refine zr_tswIn C (tgt := 1666) 27 dL_law_44 zr (by omega) (by omega) rfl (by decide) ?_
        exact law_27 hl C hX hb hbA hLn c1 c2 hLI hi hK
      · refine zr_tswIn C (tgt := 1679) 28 dL_law_44 zr (by omega) (by omega) rfl (by decide) ?_
        exact law_28 hl C hX hb hbA hLn c1 c2 hLI hi hK
      · refine zr_tswIn C (tgt := 1747) 29 dL_law_44 zr (by omega) (by omega) rfl (by decide) ?_
        exact law_29 hl C hX hb hbA hLn c1 c2 hLI hi hK
      · refine zr_tswIn C (tgt := 1803) 30 dL_law_44 zr (by omega) (by omega) rfl (by decide) ?_
        exact law_30 hl C hX hb hbA hLn c1 c2 hLI hi hK
      · refine zr_tswIn C (tgt := 1871) 31 dL_law_44 zr (by omega) (by omega) rfl (by decide) ?_
        exact law_31 hl C hX hb hbA hLn c1 c2 hLI hi hK
      · refine zr_tswIn C (tgt := 1939) 32 dL_law_44 zr (by omega) (by omega) rfl (by decide) ?_
        exact law_32 hl C hX hb hbA hLn c1 c2 hLI hi hK
      · refine zr_tswIn C (tgt := 2007) 33 dL_law_44 zr (by omega) (by omega) rfl (by decide) ?_
        exact law_33 hl C hX hb hbA hLn c1 c2 hLI hi hK
      · refine zr_tswIn C (tgt := 2082) 34 dL_law_44 zr (by omega) (by omega) rfl (by decide) ?_
        exact law_34 hl C hX hb hbA hLn c1 c2 hLI hi hK
      · refine zr_tswIn C (tgt := 2138) 35 dL_law_44 zr (by omega) (by omega) rfl (by decide) ?_
        exact law_35 hl C hX hb hbA hLn c1 c2 hLI hi hK
      · refine zr_tswIn C (tgt := 2206) 36 dL_law_44 zr (by omega) (by omega) rfl (by decide) ?_
        exact law_36 hl C hX hb hbA hLn c1 c2 hLI hi hK
      · refine zr_tswIn C (tgt := 2219) 37 dL_law_44 zr (by omega) (by omega) rfl (by decide) ?_
        exact law_37 hl C hX hb hbA hLn c1 c2 hLI hi hK
      · refine zr_tswIn C (tgt := 2275) 38 dL_law_44 zr (by omega) (by omega) rfl (by decide) ?_
        exact law_38 hl C hX hb hbA hLn c1 c2 hLI hi hK
      · refine zr_tswIn C (tgt := 2319) 39 dL_law_44 zr (by omega) (by omega) rfl (by decide) ?_
        exact law_39 hl C hX hb hbA hLn c1 c2 hLI hi hK
      · refine zr_tswIn C (tgt := 2332) 40 dL_law_44 zr (by omega) (by omega) rfl (by decide) ?_
        exact law_40 hl C hX hb hbA hLn c1 c2 hLI hi hK
      · refine zr_tswOut C (tgt := 2376) dL_law_44 zr h (by decide) ?_
        exact zr_widen (by omega) (by omega) (hK σ hLI)
