
theorem dL_law_1679 : decode cL_law 1679 = .ok (.aload_n 1, 1) := by decide +kernel
theorem dL_law_1680 : decode cL_law 1680 = .ok (.aload_n 0, 1) := by decide +kernel
theorem dL_law_1681 : decode cL_law 1681 = .ok (.iload 5, 2) := by decide +kernel
theorem dL_law_1683 : decode cL_law 1683 = .ok (.iconst 1, 1) := by decide +kernel
theorem dL_law_1684 : decode cL_law 1684 = .ok (.iadd, 1) := by decide +kernel
theorem dL_law_1685 : decode cL_law 1685 = .ok (.iaload, 1) := by decide +kernel
theorem dL_law_1686 : decode cL_law 1686 = .ok (.aload_n 0, 1) := by decide +kernel
theorem dL_law_1687 : decode cL_law 1687 = .ok (.iload 5, 2) := by decide +kernel
theorem dL_law_1689 : decode cL_law 1689 = .ok (.iconst 2, 1) := by decide +kernel
theorem dL_law_1690 : decode cL_law 1690 = .ok (.iadd, 1) := by decide +kernel
theorem dL_law_1691 : decode cL_law 1691 = .ok (.iaload, 1) := by decide +kernel
theorem dL_law_1692 : decode cL_law 1692 = .ok (.aload_n 3, 1) := by decide +kernel
set_option maxRecDepth 20000 in
theorem ggL_law_L_lexeme : GoodIn wsL_law wsL_lexeme := goodIn_ca (goodIn_ca (goodIn_rr [(33, 7), (6, 5), (4, 6), (33, 8), (33, 9), (33, 10), (0, 2), (33, 11), (4, 12), (4, 13), (0, 21), (33, 12), (33, 13), (33, 14), (33, 15), (6, 10), (6, 11), (25, 23), (26, 0), (23, 16), (26, 1), (26, 2), (26, 9), (26, 10), (26, 11), (26, 12), (33, 16), (33, 17), (33, 18), (0, 20), (33, 19), (1, 18), (2, 6), (33, 20), (33, 21), (31, 11), (31, 12), (31, 13), (2, 7), (9, 22), (9, 23), (42, 0), (42, 1), (42, 2), (42, 3), (42, 4), (42, 5), (42, 6), (42, 7), (45, 0), (45, 1), (45, 2), (45, 3), (45, 4), (45, 5), (45, 6), (45, 7), (45, 8), (45, 9), (45, 10), (45, 11), (45, 12), (45, 13), (48, 0), (48, 1), (48, 2)] (by decide +kernel) (by decide +kernel)) (goodIn_sub (fun _ h => List.mem_append_left _ (List.mem_append_left _ (List.mem_append_left _ (List.mem_append_right _ h)))) (all_gw _))) (goodIn_sub (fun _ h => List.mem_append_left _ (List.mem_append_right _ h)) (all_gw _))
set_option maxRecDepth 20000 in
theorem gL_law_L_lexeme : GoodIn wsL_law (va_wsS RL 231 yL_lexeme wsL_lexeme) := goodIn_app (goodIn_rr [(33, 5), (33, 6), (4, 4)] (by decide +kernel) (by decide +kernel)) ggL_law_L_lexeme
theorem dL_law_1693 : decode cL_law 1693 = .ok (.invokestatic 231, 3) := by decide +kernel
theorem dL_law_1696 : decode cL_law 1696 = .ok (.istore 6, 2) := by decide +kernel
theorem dL_law_1698 : decode cL_law 1698 = .ok (.aload_n 2, 1) := by decide +kernel
theorem dL_law_1699 : decode cL_law 1699 = .ok (.aload_n 0, 1) := by decide +kernel
theorem dL_law_1700 : decode cL_law 1700 = .ok (.iload 5, 2) := by decide +kernel
theorem dL_law_1702 : decode cL_law 1702 = .ok (.iconst 1, 1) := by decide +kernel
theorem dL_law_1703 : decode cL_law 1703 = .ok (.iadd, 1) := by decide +kernel
theorem dL_law_1704 : decode cL_law 1704 = .ok (.iaload, 1) := by decide +kernel
theorem dL_law_1705 : decode cL_law 1705 = .ok (.aload_n 0, 1) := by decide +kernel
theorem dL_law_1706 : decode cL_law 1706 = .ok (.iload 5, 2) := by decide +kernel
theorem dL_law_1708 : decode cL_law 1708 = .ok (.iconst 2, 1) := by decide +kernel
theorem dL_law_1709 : decode cL_law 1709 = .ok (.iadd, 1) := by decide +kernel
theorem dL_law_1710 : decode cL_law 1710 = .ok (.iaload, 1) := by decide +kernel
set_option maxRecDepth 20000 in
theorem ggL_law_X7_lexeme : GoodIn wsL_law wsX7_lexeme := goodIn_rr [(34, 1), (12, 18), (5, 3), (3, 12), (34, 2), (34, 3), (34, 4), (0, 5), (34, 5), (5, 4), (5, 5), (5, 6), (34, 6), (34, 7), (34, 8), (34, 9), (30, 8), (30, 9), (30, 10), (10, 19), (10, 20), (10, 21), (10, 22), (8, 16), (8, 17), (8, 18), (30, 15), (30, 16), (30, 17), (43, 0), (43, 1), (43, 2), (43, 3), (43, 4), (43, 5), (43, 6), (43, 7), (43, 8), (43, 9), (43, 10), (43, 11), (43, 12), (43, 13), (43, 14), (43, 15), (43, 16), (43, 17), (43, 18)] (by decide +kernel) (by decide +kernel)
set_option maxRecDepth 20000 in
theorem gL_law_X7_lexeme : GoodIn wsL_law (wsV RL 233 RX7 yX7_lexeme wsX7_lexeme) := goodIn_app (goodIn_rr [(33, 22), (33, 23), (34, 0), (0, 5)] (by decide +kernel) (by decide +kernel)) ggL_law_X7_lexeme
theorem dL_law_1711 : decode cL_law 1711 = .ok (.invokevirtual 233, 3) := by decide +kernel
theorem dL_law_1714 : decode cL_law 1714 = .ok (.istore 7, 2) := by decide +kernel
theorem dL_law_1716 : decode cL_law 1716 = .ok (.aload_n 2, 1) := by decide +kernel
theorem dL_law_1717 : decode cL_law 1717 = .ok (.invokevirtual 136, 3) := by decide +kernel
theorem dL_law_1720 : decode cL_law 1720 = .ok (.iload 6, 2) := by decide +kernel
theorem dL_law_1722 : decode cL_law 1722 = .ok (.if_icmp .eq 5, 3) := by decide +kernel
theorem dL_law_1727 : decode cL_law 1727 = .ok (.iload 6, 2) := by decide +kernel
theorem dL_law_1744 : decode cL_law 1744 = .ok (.goto 632, 3) := by decide +kernel
theorem dL_law_1729 : decode cL_law 1729 = .ok (.ifCond .ne 15, 3) := by decide +kernel
theorem dL_law_1732 : decode cL_law 1732 = .ok (.aload_n 3, 1) := by decide +kernel
theorem dL_law_1733 : decode cL_law 1733 = .ok (.iconst 0, 1) := by decide +kernel
theorem dL_law_1734 : decode cL_law 1734 = .ok (.laload, 1) := by decide +kernel
theorem dL_law_1735 : decode cL_law 1735 = .ok (.iload 7, 2) := by decide +kernel
theorem dL_law_1737 : decode cL_law 1737 = .ok (.i2l, 1) := by decide +kernel
theorem dL_law_1738 : decode cL_law 1738 = .ok (.lcmp, 1) := by decide +kernel
theorem dL_law_1739 : decode cL_law 1739 = .ok (.ifCond .eq 5, 3) := by decide +kernel
set_option maxRecDepth 100000 in
set_option maxHeartbeats 4000000 in
theorem law_28 {p : Program} {l : Launch} {e : Env} {s : State} {m : MethodId} {args : Array Value} {below : List Frame} {meth : Method} {c : Code} {a : Nat → Nat} {cy : Nat → ClassId} {D : va_G} {tV : Nat} {sa : Nat → Nat} {Q : State → Prop} {cells slots : Nat} {σ : Sto} {b Ln : Nat} {xs : Nat → Int32} {i : Nat} (hl : l.stackTraces = false) (C : zC p l s m args meth c cL_law 9 wsL_law RL a cy D tV sa) (hX : va_X b Ln xs s s.heap) (hb : b < s.heap.size) (hbA : ¬ zA a s.heap.size b) (hLn : Ln ≤ 2048) (hc1 : cells + 4 ≤ room_1.cells) (hc2 : slots + 24 ≤ room_1.slots) (hLI : LI σ) (hi : i + 4 ≤ Ln) (hK : ∀ σ', LI σ' → zX p l e room_1 s m args below meth c 9 a cy D Q (cells + 4) (slots + 24) σ' 2376 [(5, .int (zI (i : Int))), (4, .ref (a 298)), (3, .ref (a 297)), (2, .ref (a 283)), (1, .ref (a 0)), (0, .ref b)] []) : zX p l e room_1 s m args below meth c 9 a cy D Q cells slots σ 1679 [(5, .int (zI (i : Int))), (4, .ref (a 298)), (3, .ref (a 297)), (2, .ref (a 283)), (1, .ref (a 0)), (0, .ref b)] [] := by
  have hq := p_lexeme (K := LI) hLI (zR_to (xs (Int.toNat ((i : Int) + 1)))) (zR_to (xs (Int.toNat ((i : Int) + 2)))) (fun _ h => h)
  refine zr_aload_n C dL_law_1679 rfl (k := 4) rfl rfl ?_
  refine zr_aload_n C dL_law_1680 rfl (k := 5) rfl rfl ?_
  refine zr_iload C dL_law_1681 (k := 0) rfl rfl ?_
  refine zr_iconst C dL_law_1683 rfl ?_
  refine zr_iadd C dL_law_1684 rfl ?_
  refine zl_sld C hX hb hbA (by omega) (by omega) hLn dL_law_1685 rfl ?_
  refine zr_aload_n C dL_law_1686 rfl (k := 5) rfl rfl ?_
  refine zr_iload C dL_law_1687 (k := 0) rfl rfl ?_
  refine zr_iconst C dL_law_1689 rfl ?_
  refine zr_iadd C dL_law_1690 rfl ?_
  refine zl_sld C hX hb hbA (by omega) (by omega) hLn dL_law_1691 rfl ?_
  refine zr_aload_n C dL_law_1692 rfl (k := 2) rfl rfl ?_
  refine zr_xcall (zrunSX (hh := [(0, 10, 13, 21), (0, 10, 17, 13)]) C (st := []) (mL_lexeme (X := fun _ _ => False) hl zk0 zk297 hq) (vx_cwSW 4 C.2.2.2.2.1 gL_law_L_lexeme rfl rfl rfl (by decide +kernel) ⟨(Nat.le_of_ble_eq_true rfl), (Nat.le_of_ble_eq_true rfl)⟩) rfl rfl (Nat.le_of_ble_eq_true rfl) dL_law_1693 ⟨by omega, by omega⟩) rfl (fun _ _ _ _ _ _ _ _ hx _ _ _ _ _ _ _ => hx.elim) (fun v s1 hv => ?_)
  obtain ⟨r1, rfl, hq⟩ := hv
  refine zr_istore C (L' := [(6, .int (zI r1)), (5, .int (zI (i : Int))), (4, .ref (a 298)), (3, .ref (a 297)), (2, .ref (a 283)), (1, .ref (a 0)), (0, .ref b)]) dL_law_1696 (by decide) rfl rfl ?_
  refine zr_aload_n C dL_law_1698 rfl (k := 4) rfl rfl ?_
  refine zr_aload_n C dL_law_1699 rfl (k := 6) rfl rfl ?_
  refine zr_iload C dL_law_1700 (k := 1) rfl rfl ?_
  refine zr_iconst C dL_law_1702 rfl ?_
  refine zr_iadd C dL_law_1703 rfl ?_
  refine zl_sld C hX hb hbA (by omega) (by omega) hLn dL_law_1704 rfl ?_
  refine zr_aload_n C dL_law_1705 rfl (k := 6) rfl rfl ?_
  refine zr_iload C dL_law_1706 (k := 1) rfl rfl ?_
  refine zr_iconst C dL_law_1708 rfl ?_
  refine zr_iadd C dL_law_1709 rfl ?_
  refine zl_sld C hX hb hbA (by omega) (by omega) hLn dL_law_1710 rfl ?_
  refine zr_calli (zrunV C (st := []) (mX7_lexeme zk283 hq) (cwV 2 C.2.2.2.2.1 gL_law_X7_lexeme rfl rfl rfl (by decide +kernel) ⟨(Nat.le_of_ble_eq_true rfl), (Nat.le_of_ble_eq_true rfl)⟩) (zE_6 zk283) (zk_lt zk283 (by decide)) (T := TX7) (N := 19) rfl rfl rfl (Nat.le_of_ble_eq_true rfl) dL_law_1711 ⟨by omega, by omega⟩) rfl (fun b1 s2 hq => ?_)
  refine zr_istore C (L' := [(7, .int (zI b1)), (6, .int (zI r1)), (5, .int (zI (i : Int))), (4, .ref (a 298)), (3, .ref (a 297)), (2, .ref (a 283)), (1, .ref (a 0)), (0, .ref b)]) dL_law_1714 (by decide) rfl rfl ?_
  refine zr_aload_n C dL_law_1716 rfl (k := 5) rfl rfl ?_
  refine zr_calli (zrunV C (st := []) (mX7_thrown zk283 (P := fun y t => y = s2 283 7 ∧ t = s2) ⟨rfl, rfl⟩) (cwV 0 C.2.2.2.2.1 gL_law_X7_thrown rfl rfl rfl (by decide +kernel) ⟨(Nat.le_of_ble_eq_true rfl), (Nat.le_of_ble_eq_true rfl)⟩) (zE_6 zk283) (zk_lt zk283 (by decide)) (T := TX7) (N := 19) rfl rfl rfl (Nat.le_of_ble_eq_true rfl) dL_law_1717 ⟨by omega, by omega⟩) rfl (fun y s3 hy => ?_)
  obtain ⟨rfl, rfl⟩ := hy
  obtain ⟨t1, t2, t3, t4⟩ := hq
  refine zr_iload C dL_law_1720 (k := 1) rfl rfl ?_
  have hr1 : zR r1 := zR_s (by omega) (by omega)
  refine zr_icmp_eq C (tgt := 1727) dL_law_1722 (by decide) (by rw [t1]; exact hr1) hr1 rfl (fun z => ?_) (fun z => absurd t1 z)
  refine zr_iload C dL_law_1727 (k := 1) rfl rfl ?_
  have hT2 : zX p l e room_1 s m args below meth c 9 a cy D Q (cells + 2) (slots + 12) s3 1744 [(7, .int (zI b1)), (6, .int (zI r1)), (5, .int (zI (i : Int))), (4, .ref (a 298)), (3, .ref (a 297)), (2, .ref (a 283)), (1, .ref (a 0)), (0, .ref b)] [] := by
    refine zr_goto C (tgt := 2376) dL_law_1744 (by decide) ?_
    exact zr_widen (by omega) (by omega) (zr_sub C [2, 3, 4, 5, 6, 7] rfl (hK _ t4))
  refine zr_if_ne C (tgt := 1744) dL_law_1729 (by decide) hr1 rfl (fun z => hT2) (fun z => ?_)
  have t3 := t3 z
  refine zr_aload_n C dL_law_1732 rfl (k := 4) rfl rfl ?_
  refine zr_iconst C dL_law_1733 rfl ?_
  refine zr_lald C zk297 (by decide) (by rw [zn297.1]; decide) dL_law_1734 rfl ?_
  refine zr_iload C dL_law_1735 (k := 0) rfl rfl ?_
  refine zr_i2l C dL_law_1737 t3.1 rfl ?_
  have e0 : s3 297 (Int.toNat 0) = b1 := t3.2
  refine zr_lcmp C dL_law_1738 (by rw [e0]; exact zQ_R t3.1) (zQ_R t3.1) rfl ?_
  refine zr_if_eq C (tgt := 1744) dL_law_1739 (by decide) (zcmp_R _ _) rfl (fun z => hT2) (fun z => absurd (by rw [e0]; exact zcmp_self _) z)
theorem dL_law_1747 : decode cL_law 1747 = .ok (.aload_n 1, 1) := by decide +kernel
theorem dL_law_1748 : decode cL_law 1748 = .ok (.aload_n 0, 1) := by decide +kernel
theorem dL_law_1749 : decode cL_law 1749 = .ok (.iload 5, 2) := by decide +kernel
theorem dL_law_1751 : decode cL_law 1751 = .ok (.iconst 1, 1) := by decide +kernel
theorem dL_law_1752 : decode cL_law 1752 = .ok (.iadd, 1) := by decide +kernel
theorem dL_law_1753 : decode cL_law 1753 = .ok (.iaload, 1) := by decide +kernel
theorem dL_law_1754 : decode cL_law 1754 = .ok (.aload_n 3, 1) := by decide +kernel
set_option maxRecDepth 20000 in
theorem ggL_law_L_takeStem : GoodIn wsL_law wsL_takeStem := goodIn_ca (goodIn_rr [(34, 12), (6, 5), (34, 13), (34, 14), (34, 15), (0, 2), (34, 16), (0, 21), (0, 17), (33, 12), (33, 13), (33, 14), (33, 15), (6, 10), (6, 11), (31, 14), (31, 15), (23, 16), (31, 16), (27, 8), (26, 10), (26, 11), (26, 12), (31, 17), (5, 19), (5, 20), (0, 16), (5, 21), (4, 20), (31, 18), (27, 5), (27, 6), (27, 7), (31, 19), (4, 17), (4, 18), (4, 19), (1, 13), (42, 0), (42, 1), (42, 2), (42, 3), (42, 4), (42, 5), (42, 6), (42, 7), (45, 0), (45, 1), (45, 2), (45, 3), (45, 4), (45, 5), (45, 6), (45, 7), (45, 8), (45, 9), (45, 10), (45, 11), (45, 12), (45, 13), (44, 0), (44, 1)] (by decide +kernel) (by decide +kernel)) (goodIn_sub (fun _ h => List.mem_append_left _ (List.mem_append_right _ h)) (all_gw _))
set_option maxRecDepth 20000 in
theorem gL_law_L_takeStem : GoodIn wsL_law (va_wsS RL 234 yL_takeStem wsL_takeStem) := goodIn_app (goodIn_rr [(34, 10), (34, 11), (4, 4)] (by decide +kernel) (by decide +kernel)) ggL_law_L_takeStem
theorem dL_law_1755 : decode cL_law 1755 = .ok (.invokestatic 234, 3) := by decide +kernel
theorem dL_law_1758 : decode cL_law 1758 = .ok (.istore 6, 2) := by decide +kernel
theorem dL_law_1760 : decode cL_law 1760 = .ok (.aload_n 2, 1) := by decide +kernel
theorem dL_law_1761 : decode cL_law 1761 = .ok (.aload_n 0, 1) := by decide +kernel
theorem dL_law_1762 : decode cL_law 1762 = .ok (.iload 5, 2) := by decide +kernel
theorem dL_law_1764 : decode cL_law 1764 = .ok (.iconst 1, 1) := by decide +kernel
theorem dL_law_1765 : decode cL_law 1765 = .ok (.iadd, 1) := by decide +kernel
theorem dL_law_1766 : decode cL_law 1766 = .ok (.iaload, 1) := by decide +kernel
set_option maxRecDepth 20000 in
theorem ggL_law_X7_takeStem : GoodIn wsL_law wsX7_takeStem := goodIn_rr [(34, 20), (5, 3), (3, 12), (3, 15), (34, 2), (34, 3), (34, 4), (0, 5), (34, 5), (5, 4), (5, 5), (5, 6), (30, 8), (30, 9), (30, 10), (13, 14), (13, 15), (13, 16), (43, 0), (43, 1), (43, 2), (43, 3), (43, 4), (43, 5), (43, 6), (43, 7), (43, 8), (43, 9), (43, 10), (43, 11), (43, 12), (43, 13), (43, 14), (43, 15), (43, 16), (43, 17), (43, 18)] (by decide +kernel) (by decide +kernel)
set_option maxRecDepth 20000 in
theorem gL_law_X7_takeStem : GoodIn wsL_law (wsV RL 236 RX7 yX7_takeStem wsX7_takeStem) := goodIn_app (goodIn_rr [(34, 17), (34, 18), (34, 19), (0, 5)] (by decide +kernel) (by decide +kernel)) ggL_law_X7_takeStem
theorem dL_law_1767 : decode cL_law 1767 = .ok (.invokevirtual 236, 3) := by decide +kernel
theorem dL_law_1770 : decode cL_law 1770 = .ok (.istore 7, 2) := by decide +kernel
theorem dL_law_1772 : decode cL_law 1772 = .ok (.aload_n 2, 1) := by decide +kernel
theorem dL_law_1773 : decode cL_law 1773 = .ok (.invokevirtual 136, 3) := by decide +kernel
theorem dL_law_1776 : decode cL_law 1776 = .ok (.iload 6, 2) := by decide +kernel
theorem dL_law_1778 : decode cL_law 1778 = .ok (.if_icmp .eq 5, 3) := by decide +kernel
theorem dL_law_1783 : decode cL_law 1783 = .ok (.iload 6, 2) := by decide +kernel
theorem dL_law_1800 : decode cL_law 1800 = .ok (.goto 576, 3) := by decide +kernel
theorem dL_law_1785 : decode cL_law 1785 = .ok (.ifCond .ne 15, 3) := by decide +kernel
theorem dL_law_1788 : decode cL_law 1788 = .ok (.aload_n 3, 1) := by decide +kernel
theorem dL_law_1789 : decode cL_law 1789 = .ok (.iconst 0, 1) := by decide +kernel
theorem dL_law_1790 : decode cL_law 1790 = .ok (.laload, 1) := by decide +kernel
theorem dL_law_1791 : decode cL_law 1791 = .ok (.iload 7, 2) := by decide +kernel
theorem dL_law_1793 : decode cL_law 1793 = .ok (.i2l, 1) := by decide +kernel
theorem dL_law_1794 : decode cL_law 1794 = .ok (.lcmp, 1) := by decide +kernel
theorem dL_law_1795 : decode cL_law 1795 = .ok (.ifCond .eq 5, 3) := by decide +kernel
set_option maxRecDepth 100000 in
set_option maxHeartbeats 4000000 in
theorem law_29 {p : Program} {l : Launch} {e : Env} {s : State} {m : MethodId} {args : Array Value} {below : List Frame} {meth : Method} {c : Code} {a : Nat → Nat} {cy : Nat → ClassId} {D : va_G} {tV : Nat} {sa : Nat → Nat} {Q : State → Prop} {cells slots : Nat} {σ : Sto} {b Ln : Nat} {xs : Nat → Int32} {i : Nat} (hl : l.stackTraces = false) (C : zC p l s m args meth c cL_law 9 wsL_law RL a cy D tV sa) (hX : va_X b Ln xs s s.heap) (hb : b < s.heap.size) (hbA : ¬ zA a s.heap.size b) (hLn : Ln ≤ 2048) (hc1 : cells + 4 ≤ room_1.cells) (hc2 : slots + 24 ≤ room_1.slots) (hLI : LI σ) (hi : i + 4 ≤ Ln) (hK : ∀ σ', LI σ' → zX p l e room_1 s m args below meth c 9 a cy D Q (cells + 4) (slots + 24) σ' 2376 [(5, .int (zI (i : Int))), (4, .ref (a 298)), (3, .ref (a 297)), (2, .ref (a 283)), (1, .ref (a 0)), (0, .ref b)] []) : zX p l e room_1 s m args below meth c 9 a cy D Q cells slots σ 1747 [(5, .int (zI (i : Int))), (4, .ref (a 298)), (3, .ref (a 297)), (2, .ref (a 283)), (1, .ref (a 0)), (0, .ref b)] [] := by
  have hq := p_takeStem (K := LI) hLI (zR_to (xs (Int.toNat ((i : Int) + 1)))) (fun _ h => h)
  refine zr_aload_n C dL_law_1747 rfl (k := 4) rfl rfl ?_
  refine zr_aload_n C dL_law_1748 rfl (k := 5) rfl rfl ?_
  refine zr_iload C dL_law_1749 (k := 0) rfl rfl ?_
  refine zr_iconst C dL_law_1751 rfl ?_
  refine zr_iadd C dL_law_1752 rfl ?_
  refine zl_sld C hX hb hbA (by omega) (by omega) hLn dL_law_1753 rfl ?_
  refine zr_aload_n C dL_law_1754 rfl (k := 2) rfl rfl ?_
  refine zr_xcall (zrunSX (hh := [(0, 9, 12, 21)]) C (st := []) (mL_takeStem (X := fun _ _ => False) hl zk0 zk297 hq) (vx_cwSW 3 C.2.2.2.2.1 gL_law_L_takeStem rfl rfl rfl (by decide +kernel) ⟨(Nat.le_of_ble_eq_true rfl), (Nat.le_of_ble_eq_true rfl)⟩) rfl rfl (Nat.le_of_ble_eq_true rfl) dL_law_1755 ⟨by omega, by omega⟩) rfl (fun _ _ _ _ _ _ _ _ hx _ _ _ _ _ _ _ => hx.elim) (fun v s1 hv => ?_)
  obtain ⟨r1, rfl, hq⟩ := hv
  refine zr_istore C (L' := [(6, .int (zI r1)), (5, .int (zI (i : Int))), (4, .ref (a 298)), (3, .ref (a 297)), (2, .ref (a 283)), (1, .ref (a 0)), (0, .ref b)]) dL_law_1758 (by decide) rfl rfl ?_
  refine zr_aload_n C dL_law_1760 rfl (k := 4) rfl rfl ?_
  refine zr_aload_n C dL_law_1761 rfl (k := 6) rfl rfl ?_
  refine zr_iload C dL_law_1762 (k := 1) rfl rfl ?_
  refine zr_iconst C dL_law_1764 rfl ?_
  refine zr_iadd C dL_law_1765 rfl ?_
  refine zl_sld C hX hb hbA (by omega) (by omega) hLn dL_law_1766 rfl ?_
  refine zr_calli (zrunV C (st := []) (mX7_takeStem zk283 hq) (cwV 1 C.2.2.2.2.1 gL_law_X7_takeStem rfl rfl rfl (by decide +kernel) ⟨(Nat.le_of_ble_eq_true rfl), (Nat.le_of_ble_eq_true rfl)⟩) (zE_6 zk283) (zk_lt zk283 (by decide)) (T := TX7) (N := 19) rfl rfl rfl (Nat.le_of_ble_eq_true rfl) dL_law_1767 ⟨by omega, by omega⟩) rfl (fun b1 s2 hq => ?_)
  refine zr_istore C (L' := [(7, .int (zI b1)), (6, .int (zI r1)), (5, .int (zI (i : Int))), (4, .ref (a 298)), (3, .ref (a 297)), (2, .ref (a 283)), (1, .ref (a 0)), (0, .ref b)]) dL_law_1770 (by decide) rfl rfl ?_
  refine zr_aload_n C dL_law_1772 rfl (k := 5) rfl rfl ?_
  refine zr_calli (zrunV C (st := []) (mX7_thrown zk283 (P := fun y t => y = s2 283 7 ∧ t = s2) ⟨rfl, rfl⟩) (cwV 0 C.2.2.2.2.1 gL_law_X7_thrown rfl rfl rfl (by decide +kernel) ⟨(Nat.le_of_ble_eq_true rfl), (Nat.le_of_ble_eq_true rfl)⟩) (zE_6 zk283) (zk_lt zk283 (by decide)) (T := TX7) (N := 19) rfl rfl rfl (Nat.le_of_ble_eq_true rfl) dL_law_1773 ⟨by omega, by omega⟩) rfl (fun y s3 hy => ?_)
  obtain ⟨rfl, rfl⟩ := hy
  obtain ⟨t1, t2, t3, t4⟩ := hq
  refine zr_iload C dL_law_1776 (k := 1) rfl rfl ?_
  have hr1 : zR r1 := zR_s (by omega) (by omega)
  refine zr_icmp_eq C (tgt := 1783) dL_law_1778 (by decide) (by rw [t1]; exact hr1) hr1 rfl (fun z => ?_) (fun z => absurd t1 z)
  refine zr_iload C dL_law_1783 (k := 1) rfl rfl ?_
  have hT2 : zX p l e room_1 s m args below meth c 9 a cy D Q (cells + 1) (slots + 6) s3 1800 [(7, .int (zI b1)), (6, .int (zI r1)), (5, .int (zI (i : Int))), (4, .ref (a 298)), (3, .ref (a 297)), (2, .ref (a 283)), (1, .ref (a 0)), (0, .ref b)] [] := by
    refine zr_goto C (tgt := 2376) dL_law_1800 (by decide) ?_
    exact zr_widen (by omega) (by omega) (zr_sub C [2, 3, 4, 5, 6, 7] rfl (hK _ t4))
  refine zr_if_ne C (tgt := 1800) dL_law_1785 (by decide) hr1 rfl (fun z => hT2) (fun z => ?_)
  have t3 := t3 z
  refine zr_aload_n C dL_law_1788 rfl (k := 4) rfl rfl ?_
  refine zr_iconst C dL_law_1789 rfl ?_
  refine zr_lald C zk297 (by decide) (by rw [zn297.1]; decide) dL_law_1790 rfl ?_
  refine zr_iload C dL_law_1791 (k := 0) rfl rfl ?_
  refine zr_i2l C dL_law_1793 t3.1 rfl ?_
  have e0 : s3 297 (Int.toNat 0) = b1 := t3.2
  refine zr_lcmp C dL_law_1794 (by rw [e0]; exact zQ_R t3.1) (zQ_R t3.1) rfl ?_
  refine zr_if_eq C (tgt := 1800) dL_law_1795 (by decide) (zcmp_R _ _) rfl (fun z => hT2) (fun z => absurd (by rw [e0]; exact zcmp_self _) z)
theorem dL_law_1803 : decode cL_law 1803 = .ok (.aload_n 1, 1) := by decide +kernel
theorem dL_law_1804 : decode cL_law 1804 = .ok (.aload_n 0, 1) := by decide +kernel
theorem dL_law_1805 : decode cL_law 1805 = .ok (.iload 5, 2) := by decide +kernel
theorem dL_law_1807 : decode cL_law 1807 = .ok (.iconst 1, 1) := by decide +kernel
theorem dL_law_1808 : decode cL_law 1808 = .ok (.iadd, 1) := by decide +kernel
theorem dL_law_1809 : decode cL_law 1809 = .ok (.iaload, 1) := by decide +kernel
theorem dL_law_1810 : decode cL_law 1810 = .ok (.aload_n 0, 1) := by decide +kernel
theorem dL_law_1811 : decode cL_law 1811 = .ok (.iload 5, 2) := by decide +kernel
theorem dL_law_1813 : decode cL_law 1813 = .ok (.iconst 2, 1) := by decide +kernel
theorem dL_law_1814 : decode cL_law 1814 = .ok (.iadd, 1) := by decide +kernel
theorem dL_law_1815 : decode cL_law 1815 = .ok (.iaload, 1) := by decide +kernel
theorem dL_law_1816 : decode cL_law 1816 = .ok (.aload_n 3, 1) := by decide +kernel
set_option maxRecDepth 20000 in
theorem ggL_law_L_setException : GoodIn wsL_law wsL_setException := goodIn_ca (goodIn_ca (goodIn_rr [(34, 23), (6, 5), (4, 6), (35, 0), (35, 1), (35, 2), (0, 2), (35, 3), (4, 12), (4, 13), (0, 17), (1, 2), (0, 21), (35, 4), (35, 5), (35, 6), (35, 7), (33, 12), (33, 13), (33, 14), (33, 15), (6, 10), (6, 11), (25, 23), (26, 0), (23, 16), (26, 1), (26, 2), (12, 10), (12, 11), (12, 12), (12, 13), (9, 10), (9, 11), (9, 12), (9, 13), (6, 23), (7, 0), (7, 1), (1, 1), (7, 2), (2, 20), (7, 3), (7, 4), (7, 5), (7, 6), (7, 7), (7, 8), (7, 9), (7, 10), (7, 11), (0, 20), (7, 12), (7, 13), (1, 18), (7, 14), (7, 15), (7, 16), (7, 17), (1, 19), (1, 20), (2, 0), (2, 1), (2, 2), (2, 3), (2, 4), (7, 18), (2, 5), (7, 19), (2, 6), (2, 7), (7, 20), (7, 21), (7, 22), (1, 23), (7, 23), (2, 13), (8, 0), (2, 14), (10, 0), (9, 22), (9, 23), (10, 1), (10, 2), (10, 3), (10, 4), (2, 12), (5, 18), (5, 19), (5, 20), (0, 16), (5, 21), (4, 20), (33, 16), (33, 17), (33, 18), (33, 19), (33, 20), (33, 21), (31, 11), (31, 12), (31, 13), (42, 0), (42, 1), (42, 2), (42, 3), (42, 4), (42, 5), (42, 6), (42, 7), (44, 0), (44, 1), (45, 0), (45, 1), (45, 2), (45, 3), (45, 4), (45, 5), (45, 6), (45, 7), (45, 8), (45, 9), (45, 10), (45, 11), (45, 12), (45, 13), (46, 0), (46, 1), (46, 2), (48, 0), (48, 1), (48, 2)] (by decide +kernel) (by decide +kernel)) (goodIn_sub (fun _ h => List.mem_append_left _ (List.mem_append_left _ (List.mem_append_left _ (List.mem_append_right _ h)))) (all_gw _))) (goodIn_sub (fun _ h => List.mem_append_left _ (List.mem_append_right _ h)) (all_gw _))
set_option maxRecDepth 20000 in
theorem gL_law_L_setException : GoodIn wsL_law (va_wsS RL 237 yL_setException wsL_setException) := goodIn_app (goodIn_rr [(34, 21), (34, 22), (4, 4)] (by decide +kernel) (by decide +kernel)) ggL_law_L_setException
theorem dL_law_1817 : decode cL_law 1817 = .ok (.invokestatic 237, 3) := by decide +kernel
theorem dL_law_1820 : decode cL_law 1820 = .ok (.istore 6, 2) := by decide +kernel
theorem dL_law_1822 : decode cL_law 1822 = .ok (.aload_n 2, 1) := by decide +kernel
theorem dL_law_1823 : decode cL_law 1823 = .ok (.aload_n 0, 1) := by decide +kernel
theorem dL_law_1824 : decode cL_law 1824 = .ok (.iload 5, 2) := by decide +kernel
theorem dL_law_1826 : decode cL_law 1826 = .ok (.iconst 1, 1) := by decide +kernel
theorem dL_law_1827 : decode cL_law 1827 = .ok (.iadd, 1) := by decide +kernel
theorem dL_law_1828 : decode cL_law 1828 = .ok (.iaload, 1) := by decide +kernel
theorem dL_law_1829 : decode cL_law 1829 = .ok (.aload_n 0, 1) := by decide +kernel
theorem dL_law_1830 : decode cL_law 1830 = .ok (.iload 5, 2) := by decide +kernel
theorem dL_law_1832 : decode cL_law 1832 = .ok (.iconst 2, 1) := by decide +kernel
theorem dL_law_1833 : decode cL_law 1833 = .ok (.iadd, 1) := by decide +kernel
theorem dL_law_1834 : decode cL_law 1834 = .ok (.iaload, 1) := by decide +kernel
set_option maxRecDepth 20000 in
theorem ggL_law_X7_setException : GoodIn wsL_law wsX7_setException := goodIn_rr [(35, 11), (3, 15), (5, 3), (3, 12), (35, 12), (35, 13), (35, 14), (0, 5), (35, 15), (34, 2), (34, 3), (34, 4), (34, 5), (5, 4), (5, 5), (5, 6), (30, 8), (30, 9), (30, 10), (12, 19), (12, 20), (12, 21), (12, 22), (10, 9), (10, 10), (10, 11), (10, 12), (10, 19), (10, 20), (10, 21), (10, 22), (8, 16), (8, 17), (8, 18), (8, 9), (8, 10), (8, 11), (8, 12), (8, 13), (3, 13), (8, 14), (7, 15), (7, 16), (7, 17), (8, 15), (30, 15), (30, 16), (30, 17), (13, 14), (13, 15), (13, 16), (34, 6), (34, 7), (34, 8), (34, 9), (43, 0), (43, 1), (43, 2), (43, 3), (43, 4), (43, 5), (43, 6), (43, 7), (43, 8), (43, 9), (43, 10), (43, 11), (43, 12), (43, 13), (43, 14), (43, 15), (43, 16), (43, 17), (43, 18)] (by decide +kernel) (by decide +kernel)
set_option maxRecDepth 20000 in
theorem gL_law_X7_setException : GoodIn wsL_law (wsV RL 239 RX7 yX7_setException wsX7_setException) := goodIn_app (goodIn_rr [(35, 8), (35, 9), (35, 10), (0, 5)] (by decide +kernel) (by decide +kernel)) ggL_law_X7_setException
theorem dL_law_1835 : decode cL_law 1835 = .ok (.invokevirtual 239, 3) := by decide +kernel
theorem dL_law_1838 : decode cL_law 1838 = .ok (.istore 7, 2) := by decide +kernel
theorem dL_law_1840 : decode cL_law 1840 = .ok (.aload_n 2, 1) := by decide +kernel
theorem dL_law_1841 : decode cL_law 1841 = .ok (.invokevirtual 136, 3) := by decide +kernel
theorem dL_law_1844 : decode cL_law 1844 = .ok (.iload 6, 2) := by decide +kernel
theorem dL_law_1846 : decode cL_law 1846 = .ok (.if_icmp .eq 5, 3) := by decide +kernel
theorem dL_law_1851 : decode cL_law 1851 = .ok (.iload 6, 2) := by decide +kernel
theorem dL_law_1868 : decode cL_law 1868 = .ok (.goto 508, 3) := by decide +kernel
theorem dL_law_1853 : decode cL_law 1853 = .ok (.ifCond .ne 15, 3) := by decide +kernel
theorem dL_law_1856 : decode cL_law 1856 = .ok (.aload_n 3, 1) := by decide +kernel
theorem dL_law_1857 : decode cL_law 1857 = .ok (.iconst 0, 1) := by decide +kernel
theorem dL_law_1858 : decode cL_law 1858 = .ok (.laload, 1) := by decide +kernel
theorem dL_law_1859 : decode cL_law 1859 = .ok (.iload 7, 2) := by decide +kernel
theorem dL_law_1861 : decode cL_law 1861 = .ok (.i2l, 1) := by decide +kernel
theorem dL_law_1862 : decode cL_law 1862 = .ok (.lcmp, 1) := by decide +kernel
theorem dL_law_1863 : decode cL_law 1863 = .ok (.ifCond .eq 5, 3) := by decide +kernel
set_option maxRecDepth 100000 in
set_option maxHeartbeats 4000000 in
theorem law_30 {p : Program} {l : Launch} {e : Env} {s : State} {m : MethodId} {args : Array Value} {below : List Frame} {meth : Method} {c : Code} {a : Nat → Nat} {cy : Nat → ClassId} {D : va_G} {tV : Nat} {sa : Nat → Nat} {Q : State → Prop} {cells slots : Nat} {σ : Sto} {b Ln : Nat} {xs : Nat → Int32} {i : Nat} (hl : l.stackTraces = false) (C : zC p l s m args meth c cL_law 9 wsL_law RL a cy D tV sa) (hX : va_X b Ln xs s s.heap) (hb : b < s.heap.size) (hbA : ¬ zA a s.heap.size b) (hLn : Ln ≤ 2048) (hc1 : cells + 4 ≤ room_1.cells) (hc2 : slots + 24 ≤ room_1.slots) (hLI : LI σ) (hi : i + 4 ≤ Ln) (hK : ∀ σ', LI σ' → zX p l e room_1 s m args below meth c 9 a cy D Q (cells + 4) (slots + 24) σ' 2376 [(5, .int (zI (i : Int))), (4, .ref (a 298)), (3, .ref (a 297)), (2, .ref (a 283)), (1, .ref (a 0)), (0, .ref b)] []) : zX p l e room_1 s m args below meth c 9 a cy D Q cells slots σ 1803 [(5, .int (zI (i : Int))), (4, .ref (a 298)), (3, .ref (a 297)), (2, .ref (a 283)), (1, .ref (a 0)), (0, .ref b)] [] := by
  have hq := p_setException (K := LI) hLI (zR_to (xs (Int.toNat ((i : Int) + 1)))) (zR_to (xs (Int.toNat ((i : Int) + 2)))) (fun _ h => h)
  refine zr_aload_n C dL_law_1803 rfl (k := 4) rfl rfl ?_
  refine zr_aload_n C dL_law_1804 rfl (k := 5) rfl rfl ?_
  refine zr_iload C dL_law_1805 (k := 0) rfl rfl ?_
  refine zr_iconst C dL_law_1807 rfl ?_
  refine zr_iadd C dL_law_1808 rfl ?_
  refine zl_sld C hX hb hbA (by omega) (by omega) hLn dL_law_1809 rfl ?_
  refine zr_aload_n C dL_law_1810 rfl (k := 5) rfl rfl ?_
  refine zr_iload C dL_law_1811 (k := 0) rfl rfl ?_
  refine zr_iconst C dL_law_1813 rfl ?_
  refine zr_iadd C dL_law_1814 rfl ?_
  refine zl_sld C hX hb hbA (by omega) (by omega) hLn dL_law_1815 rfl ?_
  refine zr_aload_n C dL_law_1816 rfl (k := 2) rfl rfl ?_
  refine zr_xcall (zrunSX (hh := [(0, 10, 13, 21), (0, 10, 17, 13)]) C (st := []) (mL_setException (X := fun _ _ => False) hl zk0 zk297 hq) (vx_cwSW 4 C.2.2.2.2.1 gL_law_L_setException rfl rfl rfl (by decide +kernel) ⟨(Nat.le_of_ble_eq_true rfl), (Nat.le_of_ble_eq_true rfl)⟩) rfl rfl (Nat.le_of_ble_eq_true rfl) dL_law_1817 ⟨by omega, by omega⟩) rfl (fun _ _ _ _ _ _ _ _ hx _ _ _ _ _ _ _ => hx.elim) (fun v s1 hv => ?_)
  obtain ⟨r1, rfl, hq⟩ := hv
  refine zr_istore C (L' := [(6, .int (zI r1)), (5, .int (zI (i : Int))), (4, .ref (a 298)), (3, .ref (a 297)), (2, .ref (a 283)), (1, .ref (a 0)), (0, .ref b)]) dL_law_1820 (by decide) rfl rfl ?_
  refine zr_aload_n C dL_law_1822 rfl (k := 4) rfl rfl ?_
  refine zr_aload_n C dL_law_1823 rfl (k := 6) rfl rfl ?_
  refine zr_iload C dL_law_1824 (k := 1) rfl rfl ?_
  refine zr_iconst C dL_law_1826 rfl ?_
  refine zr_iadd C dL_law_1827 rfl ?_
  refine zl_sld C hX hb hbA (by omega) (by omega) hLn dL_law_1828 rfl ?_
  refine zr_aload_n C dL_law_1829 rfl (k := 6) rfl rfl ?_
  refine zr_iload C dL_law_1830 (k := 1) rfl rfl ?_
  refine zr_iconst C dL_law_1832 rfl ?_
  refine zr_iadd C dL_law_1833 rfl ?_
  refine zl_sld C hX hb hbA (by omega) (by omega) hLn dL_law_1834 rfl ?_
  refine zr_calli (zrunV C (st := []) (mX7_setException zk283 hq) (cwV 2 C.2.2.2.2.1 gL_law_X7_setException rfl rfl rfl (by decide +kernel) ⟨(Nat.le_of_ble_eq_true rfl), (Nat.le_of_ble_eq_true rfl)⟩) (zE_6 zk283) (zk_lt zk283 (by decide)) (T := TX7) (N := 19) rfl rfl rfl (Nat.le_of_ble_eq_true rfl) dL_law_1835 ⟨by omega, by omega⟩) rfl (fun b1 s2 hq => ?_)
  refine zr_istore C (L' := [(7, .int (zI b1)), (6, .int (zI r1)), (5, .int (zI (i : Int))), (4, .ref (a 298)), (3, .ref (a 297)), (2, .ref (a 283)), (1, .ref (a 0)), (0, .ref b)]) dL_law_1838 (by decide) rfl rfl ?_
  refine zr_aload_n C dL_law_1840 rfl (k := 5) rfl rfl ?_
  refine zr_calli (zrunV C (st := []) (mX7_thrown zk283 (P := fun y t => y = s2 283 7 ∧ t = s2) ⟨rfl, rfl⟩) (cwV 0 C.2.2.2.2.1 gL_law_X7_thrown rfl rfl rfl (by decide +kernel) ⟨(Nat.le_of_ble_eq_true rfl), (Nat.le_of_ble_eq_true rfl)⟩) (zE_6 zk283) (zk_lt zk283 (by decide)) (T := TX7) (N := 19) rfl rfl rfl (Nat.le_of_ble_eq_true rfl) dL_law_1841 ⟨by omega, by omega⟩) rfl (fun y s3 hy => ?_)
  obtain ⟨rfl, rfl⟩ := hy
  obtain ⟨t1, t2, t3, t4⟩ := hq
  refine zr_iload C dL_law_1844 (k := 1) rfl rfl ?_
  have hr1 : zR r1 := zR_s (by omega) (by omega)
  refine zr_icmp_eq C (tgt := 1851) dL_law_1846 (by decide) (by rw [t1]; exact hr1) hr1 rfl (fun z => ?_) (fun z => absurd t1 z)
  refine zr_iload C dL_law_1851 (k := 1) rfl rfl ?_
  have hT2 : zX p l e room_1 s m args below meth c 9 a cy D Q (cells + 4) (slots + 24) s3 1868 [(7, .int (zI b1)), (6, .int (zI r1)), (5, .int (zI (i : Int))), (4, .ref (a 298)), (3, .ref (a 297)), (2, .ref (a 283)), (1, .ref (a 0)), (0, .ref b)] [] := by
    refine zr_goto C (tgt := 2376) dL_law_1868 (by decide) ?_
    exact zr_widen (by omega) (by omega) (zr_sub C [2, 3, 4, 5, 6, 7] rfl (hK _ t4))
  refine zr_if_ne C (tgt := 1868) dL_law_1853 (by decide) hr1 rfl (fun z => hT2) (fun z => ?_)
  have t3 := t3 z
  refine zr_aload_n C dL_law_1856 rfl (k := 4) rfl rfl ?_
  refine zr_iconst C dL_law_1857 rfl ?_
  refine zr_lald C zk297 (by decide) (by rw [zn297.1]; decide) dL_law_1858 rfl ?_
  refine zr_iload C dL_law_1859 (k := 0) rfl rfl ?_
  refine zr_i2l C dL_law_1861 t3.1 rfl ?_
  have e0 : s3 297 (Int.toNat 0) = b1 := t3.2
  refine zr_lcmp C dL_law_1862 (by rw [e0]; exact zQ_R t3.1) (zQ_R t3.1) rfl ?_
  refine zr_if_eq C (tgt := 1868) dL_law_1863 (by decide) (zcmp_R _ _) rfl (fun z => hT2) (fun z => absurd (by rw [e0]; exact zcmp_self _) z)
theorem dL_law_1871 : decode cL_law 1871 = .ok (.aload_n 1, 1) := by decide +kernel
theorem dL_law_1872 : decode cL_law 1872 = .ok (.aload_n 0, 1) := by decide +kernel
theorem dL_law_1873 : decode cL_law 1873 = .ok (.iload 5, 2) := by decide +kernel
theorem dL_law_1875 : decode cL_law 1875 = .ok (.iconst 1, 1) := by decide +kernel
theorem dL_law_1876 : decode cL_law 1876 = .ok (.iadd, 1) := by decide +kernel
theorem dL_law_1877 : decode cL_law 1877 = .ok (.iaload, 1) := by decide +kernel
theorem dL_law_1878 : decode cL_law 1878 = .ok (.aload_n 0, 1) := by decide +kernel
theorem dL_law_1879 : decode cL_law 1879 = .ok (.iload 5, 2) := by decide +kernel
theorem dL_law_1881 : decode cL_law 1881 = .ok (.iconst 2, 1) := by decide +kernel
theorem dL_law_1882 : decode cL_law 1882 = .ok (.iadd, 1) := by decide +kernel
theorem dL_law_1883 : decode cL_law 1883 = .ok (.iaload, 1) := by decide +kernel
theorem dL_law_1884 : decode cL_law 1884 = .ok (.aload_n 3, 1) := by decide +kernel
set_option maxRecDepth 20000 in
theorem ggL_law_L_clearException : GoodIn wsL_law wsL_clearException := goodIn_ca (goodIn_ca (goodIn_rr [(35, 18), (6, 5), (11, 5), (35, 19), (35, 20), (35, 21), (0, 2), (35, 22), (11, 10), (11, 11), (0, 21), (1, 2), (35, 4), (35, 5), (35, 6), (35, 7), (33, 12), (33, 13), (33, 14), (33, 15), (6, 10), (6, 11), (25, 23), (26, 0), (23, 16), (26, 1), (26, 2), (12, 10), (12, 11), (12, 12), (12, 13), (9, 10), (9, 11), (9, 12), (9, 13), (31, 10), (31, 11), (31, 12), (0, 20), (31, 13), (2, 7), (9, 22), (9, 23), (6, 23), (7, 0), (7, 1), (1, 1), (7, 2), (2, 20), (7, 3), (7, 4), (7, 5), (7, 6), (7, 7), (7, 8), (7, 9), (7, 10), (7, 11), (7, 12), (7, 13), (1, 18), (7, 14), (7, 15), (7, 16), (7, 17), (1, 19), (1, 20), (2, 0), (2, 1), (2, 2), (2, 3), (2, 4), (7, 18), (2, 5), (7, 19), (2, 6), (7, 20), (7, 21), (7, 22), (1, 23), (7, 23), (2, 13), (8, 0), (2, 14), (35, 23), (36, 0), (36, 1), (36, 2), (33, 16), (33, 17), (33, 18), (33, 19), (33, 20), (33, 21), (42, 0), (42, 1), (42, 2), (42, 3), (42, 4), (42, 5), (42, 6), (42, 7), (45, 0), (45, 1), (45, 2), (45, 3), (45, 4), (45, 5), (45, 6), (45, 7), (45, 8), (45, 9), (45, 10), (45, 11), (45, 12), (45, 13), (48, 0), (48, 1), (48, 2), (46, 0), (46, 1), (46, 2)] (by decide +kernel) (by decide +kernel)) (goodIn_sub (fun _ h => List.mem_append_right _ h) (all_gw _))) (goodIn_sub (fun _ h => List.mem_append_left _ (List.mem_append_right _ h)) (all_gw _))
set_option maxRecDepth 20000 in
theorem gL_law_L_clearException : GoodIn wsL_law (va_wsS RL 240 yL_clearException wsL_clearException) := goodIn_app (goodIn_rr [(35, 16), (35, 17), (4, 4)] (by decide +kernel) (by decide +kernel)) ggL_law_L_clearException
theorem dL_law_1885 : decode cL_law 1885 = .ok (.invokestatic 240, 3) := by decide +kernel
theorem dL_law_1888 : decode cL_law 1888 = .ok (.istore 6, 2) := by decide +kernel
theorem dL_law_1890 : decode cL_law 1890 = .ok (.aload_n 2, 1) := by decide +kernel
theorem dL_law_1891 : decode cL_law 1891 = .ok (.aload_n 0, 1) := by decide +kernel
theorem dL_law_1892 : decode cL_law 1892 = .ok (.iload 5, 2) := by decide +kernel
theorem dL_law_1894 : decode cL_law 1894 = .ok (.iconst 1, 1) := by decide +kernel
theorem dL_law_1895 : decode cL_law 1895 = .ok (.iadd, 1) := by decide +kernel
theorem dL_law_1896 : decode cL_law 1896 = .ok (.iaload, 1) := by decide +kernel
theorem dL_law_1897 : decode cL_law 1897 = .ok (.aload_n 0, 1) := by decide +kernel
theorem dL_law_1898 : decode cL_law 1898 = .ok (.iload 5, 2) := by decide +kernel
theorem dL_law_1900 : decode cL_law 1900 = .ok (.iconst 2, 1) := by decide +kernel
theorem dL_law_1901 : decode cL_law 1901 = .ok (.iadd, 1) := by decide +kernel
theorem dL_law_1902 : decode cL_law 1902 = .ok (.iaload, 1) := by decide +kernel
set_option maxRecDepth 20000 in
theorem ggL_law_X7_clearException : GoodIn wsL_law wsX7_clearException := goodIn_rr [(36, 6), (3, 12), (5, 3), (35, 12), (35, 13), (35, 14), (0, 5), (35, 15), (34, 2), (34, 3), (34, 4), (34, 5), (5, 4), (5, 5), (5, 6), (30, 8), (30, 9), (30, 10), (12, 19), (12, 20), (12, 21), (12, 22), (10, 9), (10, 10), (10, 11), (10, 12), (10, 19), (10, 20), (10, 21), (10, 22), (8, 16), (8, 17), (8, 18), (30, 15), (30, 16), (30, 17), (8, 9), (8, 10), (8, 11), (8, 12), (8, 13), (3, 13), (8, 14), (7, 15), (7, 16), (7, 17), (8, 15), (34, 6), (34, 7), (34, 8), (34, 9), (43, 0), (43, 1), (43, 2), (43, 3), (43, 4), (43, 5), (43, 6), (43, 7), (43, 8), (43, 9), (43, 10), (43, 11), (43, 12), (43, 13), (43, 14), (43, 15), (43, 16), (43, 17), (43, 18)] (by decide +kernel) (by decide +kernel)
set_option maxRecDepth 20000 in
theorem gL_law_X7_clearException : GoodIn wsL_law (wsV RL 242 RX7 yX7_clearException wsX7_clearException) := goodIn_app (goodIn_rr [(36, 3), (36, 4), (36, 5), (0, 5)] (by decide +kernel) (by decide +kernel)) ggL_law_X7_clearException
theorem dL_law_1903 : decode cL_law 1903 = .ok (.invokevirtual 242, 3) := by decide +kernel
theorem dL_law_1906 : decode cL_law 1906 = .ok (.istore 7, 2) := by decide +kernel
theorem dL_law_1908 : decode cL_law 1908 = .ok (.aload_n 2, 1) := by decide +kernel
theorem dL_law_1909 : decode cL_law 1909 = .ok (.invokevirtual 136, 3) := by decide +kernel
theorem dL_law_1912 : decode cL_law 1912 = .ok (.iload 6, 2) := by decide +kernel
theorem dL_law_1914 : decode cL_law 1914 = .ok (.if_icmp .eq 5, 3) := by decide +kernel
theorem dL_law_1919 : decode cL_law 1919 = .ok (.iload 6, 2) := by decide +kernel
theorem dL_law_1936 : decode cL_law 1936 = .ok (.goto 440, 3) := by decide +kernel
theorem dL_law_1921 : decode cL_law 1921 = .ok (.ifCond .ne 15, 3) := by decide +kernel
theorem dL_law_1924 : decode cL_law 1924 = .ok (.aload_n 3, 1) := by decide +kernel
theorem dL_law_1925 : decode cL_law 1925 = .ok (.iconst 0, 1) := by decide +kernel
theorem dL_law_1926 : decode cL_law 1926 = .ok (.laload, 1) := by decide +kernel
theorem dL_law_1927 : decode cL_law 1927 = .ok (.iload 7, 2) := by decide +kernel
theorem dL_law_1929 : decode cL_law 1929 = .ok (.i2l, 1) := by decide +kernel
theorem dL_law_1930 : decode cL_law 1930 = .ok (.lcmp, 1) := by decide +kernel
theorem dL_law_1931 : decode cL_law 1931 = .ok (.ifCond .eq 5, 3) := by decide +kernel
set_option maxRecDepth 100000 in
set_option maxHeartbeats 4000000 in
theorem law_31 {p : Program} {l : Launch} {e : Env} {s : State} {m : MethodId} {args : Array Value} {below : List Frame} {meth : Method} {c : Code} {a : Nat → Nat} {cy : Nat → ClassId} {D : va_G} {tV : Nat} {sa : Nat → Nat} {Q : State → Prop} {cells slots : Nat} {σ : Sto} {b Ln : Nat} {xs : Nat → Int32} {i : Nat} (hl : l.stackTraces = false) (C : zC p l s m args meth c cL_law 9 wsL_law RL a cy D tV sa) (hX : va_X b Ln xs s s.heap) (hb : b < s.heap.size) (hbA : ¬ zA a s.heap.size b) (hLn : Ln ≤ 2048) (hc1 : cells + 4 ≤ room_1.cells) (hc2 : slots + 24 ≤ room_1.slots) (hLI : LI σ) (hi : i + 4 ≤ Ln) (hK : ∀ σ', LI σ' → zX p l e room_1 s m args below meth c 9 a cy D Q (cells + 4) (slots + 24) σ' 2376 [(5, .int (zI (i : Int))), (4, .ref (a 298)), (3, .ref (a 297)), (2, .ref (a 283)), (1, .ref (a 0)), (0, .ref b)] []) : zX p l e room_1 s m args below meth c 9 a cy D Q cells slots σ 1871 [(5, .int (zI (i : Int))), (4, .ref (a 298)), (3, .ref (a 297)), (2, .ref (a 283)), (1, .ref (a 0)), (0, .ref b)] [] := by
  have hq := p_clearException (K := LI) hLI (zR_to (xs (Int.toNat ((i : Int) + 1)))) (zR_to (xs (Int.toNat ((i : Int) + 2)))) (fun _ h => h)
  refine zr_aload_n C dL_law_1871 rfl (k := 4) rfl rfl ?_
  refine zr_aload_n C dL_law_1872 rfl (k := 5) rfl rfl ?_
  refine zr_iload C dL_law_1873 (k := 0) rfl rfl ?_
  refine zr_iconst C dL_law_1875 rfl ?_
  refine zr_iadd C dL_law_1876 rfl ?_
  refine zl_sld C hX hb hbA (by omega) (by omega) hLn dL_law_1877 rfl ?_
  refine zr_aload_n C dL_law_1878 rfl (k := 5) rfl rfl ?_
  refine zr_iload C dL_law_1879 (k := 0) rfl rfl ?_
  refine zr_iconst C dL_law_1881 rfl ?_
  refine zr_iadd C dL_law_1882 rfl ?_
  refine zl_sld C hX hb hbA (by omega) (by omega) hLn dL_law_1883 rfl ?_
  refine zr_aload_n C dL_law_1884 rfl (k := 2) rfl rfl ?_
  refine zr_xcall (zrunSX (hh := [(0, 10, 13, 21), (0, 10, 17, 35)]) C (st := []) (mL_clearException (X := fun _ _ => False) hl zk0 zk297 hq) (vx_cwSW 4 C.2.2.2.2.1 gL_law_L_clearException rfl rfl rfl (by decide +kernel) ⟨(Nat.le_of_ble_eq_true rfl), (Nat.le_of_ble_eq_true rfl)⟩) rfl rfl (Nat.le_of_ble_eq_true rfl) dL_law_1885 ⟨by omega, by omega⟩) rfl (fun _ _ _ _ _ _ _ _ hx _ _ _ _ _ _ _ => hx.elim) (fun v s1 hv => ?_)
  obtain ⟨r1, rfl, hq⟩ := hv
  refine zr_istore C (L' := [(6, .int (zI r1)), (5, .int (zI (i : Int))), (4, .ref (a 298)), (3, .ref (a 297)), (2, .ref (a 283)), (1, .ref (a 0)), (0, .ref b)]) dL_law_1888 (by decide) rfl rfl ?_
  refine zr_aload_n C dL_law_1890 rfl (k := 4) rfl rfl ?_
  refine zr_aload_n C dL_law_1891 rfl (k := 6) rfl rfl ?_
  refine zr_iload C dL_law_1892 (k := 1) rfl rfl ?_
  refine zr_iconst C dL_law_1894 rfl ?_
  refine zr_iadd C dL_law_1895 rfl ?_
  refine zl_sld C hX hb hbA (by omega) (by omega) hLn dL_law_1896 rfl ?_
  refine zr_aload_n C dL_law_1897 rfl (k := 6) rfl rfl ?_
  refine zr_iload C dL_law_1898 (k := 1) rfl rfl ?_
  refine zr_iconst C dL_law_1900 rfl ?_
  refine zr_iadd C dL_law_1901 rfl ?_
  refine zl_sld C hX hb hbA (by omega) (by omega) hLn dL_law_1902 rfl ?_
  refine zr_calli (zrunV C (st := []) (mX7_clearException zk283 hq) (cwV 2 C.2.2.2.2.1 gL_law_X7_clearException rfl rfl rfl (by decide +kernel) ⟨(Nat.le_of_ble_eq_true rfl), (Nat.le_of_ble_eq_true rfl)⟩) (zE_6 zk283) (zk_lt zk283 (by decide)) (T := TX7) (N := 19) rfl rfl rfl (Nat.le_of_ble_eq_true rfl) dL_law_1903 ⟨by omega, by omega⟩) rfl (fun b1 s2 hq => ?_)
  refine zr_istore C (L' := [(7, .int (zI b1)), (6, .int (zI r1)), (5, .int (zI (i : Int))), (4, .ref (a 298)), (3, .ref (a 297)), (2, .ref (a 283)), (1, .ref (a 0)), (0, .ref b)]) dL_law_1906 (by decide) rfl rfl ?_
  refine zr_aload_n C dL_law_1908 rfl (k := 5) rfl rfl ?_
  refine zr_calli (zrunV C (st := []) (mX7_thrown zk283 (P := fun y t => y = s2 283 7 ∧ t = s2) ⟨rfl, rfl⟩) (cwV 0 C.2.2.2.2.1 gL_law_X7_thrown rfl rfl rfl (by decide +kernel) ⟨(Nat.le_of_ble_eq_true rfl), (Nat.le_of_ble_eq_true rfl)⟩) (zE_6 zk283) (zk_lt zk283 (by decide)) (T := TX7) (N := 19) rfl rfl rfl (Nat.le_of_ble_eq_true rfl) dL_law_1909 ⟨by omega, by omega⟩) rfl (fun y s3 hy => ?_)
  obtain ⟨rfl, rfl⟩ := hy
  obtain ⟨t1, t2, t3, t4⟩ := hq
  refine zr_iload C dL_law_1912 (k := 1) rfl rfl ?_
  have hr1 : zR r1 := zR_s (by omega) (by omega)
  refine zr_icmp_eq C (tgt := 1919) dL_law_1914 (by decide) (by rw [t1]; exact hr1) hr1 rfl (fun z => ?_) (fun z => absurd t1 z)
  refine zr_iload C dL_law_1919 (k := 1) rfl rfl ?_
  have hT2 : zX p l e room_1 s m args below meth c 9 a cy D Q (cells + 4) (slots + 24) s3 1936 [(7, .int (zI b1)), (6, .int (zI r1)), (5, .int (zI (i : Int))), (4, .ref (a 298)), (3, .ref (a 297)), (2, .ref (a 283)), (1, .ref (a 0)), (0, .ref b)] [] := by
    refine zr_goto C (tgt := 2376) dL_law_1936 (by decide) ?_
    exact zr_widen (by omega) (by omega) (zr_sub C [2, 3, 4, 5, 6, 7] rfl (hK _ t4))
  refine zr_if_ne C (tgt := 1936) dL_law_1921 (by decide) hr1 rfl (fun z => hT2) (fun z => ?_)
  have t3 := t3 z
  refine zr_aload_n C dL_law_1924 rfl (k := 4) rfl rfl ?_
  refine zr_iconst C dL_law_1925 rfl ?_
  refine zr_lald C zk297 (by decide) (by rw [zn297.1]; decide) dL_law_1926 rfl ?_
  refine zr_iload C dL_law_1927 (k := 0) rfl rfl ?_
  refine zr_i2l C dL_law_1929 t3.1 rfl ?_
  have e0 : s3 297 (Int.toNat 0) = b1 := t3.2
  refine zr_lcmp C dL_law_1930 (by rw [e0]; exact zQ_R t3.1) (zQ_R t3.1) rfl ?_
  refine zr_if_eq C (tgt := 1936) dL_law_1931 (by decide) (zcmp_R _ _) rfl (fun z => hT2) (fun z => absurd (by rw [e0]; exact zcmp_self _) z)
theorem dL_law_1939 : decode cL_law 1939 = .ok (.aload_n 1, 1) := by decide +kernel
theorem dL_law_1940 : decode cL_law 1940 = .ok (.aload_n 0, 1) := by decide +kernel
theorem dL_law_1941 : decode cL_law 1941 = .ok (.iload 5, 2) := by decide +kernel
theorem dL_law_1943 : decode cL_law 1943 = .ok (.iconst 1, 1) := by decide +kernel
theorem dL_law_1944 : decode cL_law 1944 = .ok (.iadd, 1) := by decide +kernel
theorem dL_law_1945 : decode cL_law 1945 = .ok (.iaload, 1) := by decide +kernel
theorem dL_law_1946 : decode cL_law 1946 = .ok (.aload_n 0, 1) := by decide +kernel
theorem dL_law_1947 : decode cL_law 1947 = .ok (.iload 5, 2) := by decide +kernel
theorem dL_law_1949 : decode cL_law 1949 = .ok (.iconst 2, 1) := by decide +kernel
theorem dL_law_1950 : decode cL_law 1950 = .ok (.iadd, 1) := by decide +kernel
theorem dL_law_1951 : decode cL_law 1951 = .ok (.iaload, 1) := by decide +kernel
theorem dL_law_1952 : decode cL_law 1952 = .ok (.aload_n 3, 1) := by decide +kernel
set_option maxRecDepth 20000 in
theorem ggL_law_L_takeForm : GoodIn wsL_law wsL_takeForm := goodIn_ca (goodIn_ca (goodIn_rr [(36, 9), (6, 5), (11, 5), (36, 10), (36, 11), (36, 12), (0, 2), (36, 13), (35, 4), (35, 5), (35, 6), (35, 7), (0, 21), (33, 12), (33, 13), (33, 14), (33, 15), (6, 10), (6, 11), (25, 23), (26, 0), (23, 16), (26, 1), (26, 2), (12, 10), (12, 11), (12, 12), (12, 13), (9, 10), (9, 11), (9, 12), (9, 13), (31, 6), (31, 7), (31, 8), (31, 9), (1, 8), (1, 7), (31, 10), (31, 11), (31, 12), (0, 20), (31, 13), (2, 7), (9, 22), (9, 23), (5, 18), (5, 19), (5, 20), (0, 16), (5, 21), (4, 20), (10, 0), (21, 7), (16, 13), (16, 14), (1, 23), (16, 15), (2, 12), (2, 13), (16, 16), (7, 6), (7, 7), (7, 8), (2, 14), (31, 14), (31, 15), (31, 16), (27, 8), (26, 10), (26, 11), (26, 12), (31, 17), (31, 18), (27, 5), (27, 6), (27, 7), (31, 19), (4, 17), (4, 18), (4, 19), (1, 13), (15, 16), (15, 17), (15, 18), (15, 19), (2, 1), (2, 3), (2, 2), (2, 4), (15, 20), (15, 21), (15, 22), (15, 23), (14, 14), (14, 15), (14, 16), (14, 17), (16, 0), (16, 1), (16, 2), (16, 3), (16, 4), (16, 5), (16, 6), (16, 7), (16, 8), (16, 9), (16, 10), (16, 11), (14, 12), (14, 13), (16, 12), (16, 17), (16, 18), (16, 19), (16, 20), (11, 10), (11, 11), (0, 17), (16, 21), (42, 0), (42, 1), (42, 2), (42, 3), (42, 4), (42, 5), (42, 6), (42, 7), (45, 0), (45, 1), (45, 2), (45, 3), (45, 4), (45, 5), (45, 6), (45, 7), (45, 8), (45, 9), (45, 10), (45, 11), (45, 12), (45, 13), (48, 0), (48, 1), (48, 2), (44, 0), (44, 1)] (by decide +kernel) (by decide +kernel)) (goodIn_sub (fun _ h => List.mem_append_left _ (List.mem_append_right _ h)) (all_gw _))) (goodIn_sub (fun _ h => List.mem_append_right _ h) (all_gw _))
set_option maxRecDepth 20000 in
theorem gL_law_L_takeForm : GoodIn wsL_law (va_wsS RL 243 yL_takeForm wsL_takeForm) := goodIn_app (goodIn_rr [(36, 7), (36, 8), (4, 4)] (by decide +kernel) (by decide +kernel)) ggL_law_L_takeForm
theorem dL_law_1953 : decode cL_law 1953 = .ok (.invokestatic 243, 3) := by decide +kernel
theorem dL_law_1956 : decode cL_law 1956 = .ok (.istore 6, 2) := by decide +kernel
theorem dL_law_1958 : decode cL_law 1958 = .ok (.aload_n 2, 1) := by decide +kernel
theorem dL_law_1959 : decode cL_law 1959 = .ok (.aload_n 0, 1) := by decide +kernel
theorem dL_law_1960 : decode cL_law 1960 = .ok (.iload 5, 2) := by decide +kernel
theorem dL_law_1962 : decode cL_law 1962 = .ok (.iconst 1, 1) := by decide +kernel
theorem dL_law_1963 : decode cL_law 1963 = .ok (.iadd, 1) := by decide +kernel
theorem dL_law_1964 : decode cL_law 1964 = .ok (.iaload, 1) := by decide +kernel
theorem dL_law_1965 : decode cL_law 1965 = .ok (.aload_n 0, 1) := by decide +kernel
theorem dL_law_1966 : decode cL_law 1966 = .ok (.iload 5, 2) := by decide +kernel
theorem dL_law_1968 : decode cL_law 1968 = .ok (.iconst 2, 1) := by decide +kernel
theorem dL_law_1969 : decode cL_law 1969 = .ok (.iadd, 1) := by decide +kernel
theorem dL_law_1970 : decode cL_law 1970 = .ok (.iaload, 1) := by decide +kernel
set_option maxRecDepth 20000 in
theorem ggL_law_X7_takeForm : GoodIn wsL_law wsX7_takeForm := goodIn_rr [(36, 17), (5, 3), (3, 16), (3, 15), (35, 12), (35, 13), (35, 14), (0, 5), (35, 15), (3, 12), (34, 2), (34, 3), (34, 4), (34, 5), (5, 4), (5, 5), (5, 6), (30, 8), (30, 9), (30, 10), (12, 19), (12, 20), (12, 21), (12, 22), (10, 9), (10, 10), (10, 11), (10, 12), (10, 19), (10, 20), (10, 21), (10, 22), (8, 16), (8, 17), (8, 18), (32, 13), (32, 14), (32, 15), (32, 16), (30, 15), (30, 16), (30, 17), (13, 14), (13, 15), (13, 16), (17, 2), (17, 3), (17, 4), (17, 5), (10, 23), (11, 0), (11, 1), (15, 5), (15, 6), (15, 7), (5, 7), (5, 8), (5, 9), (17, 6), (17, 7), (17, 8), (15, 2), (15, 3), (15, 4), (17, 9), (17, 10), (17, 11), (43, 0), (43, 1), (43, 2), (43, 3), (43, 4), (43, 5), (43, 6), (43, 7), (43, 8), (43, 9), (43, 10), (43, 11), (43, 12), (43, 13), (43, 14), (43, 15), (43, 16), (43, 17), (43, 18)] (by decide +kernel) (by decide +kernel)
set_option maxRecDepth 20000 in
theorem gL_law_X7_takeForm : GoodIn wsL_law (wsV RL 245 RX7 yX7_takeForm wsX7_takeForm) := goodIn_app (goodIn_rr [(36, 14), (36, 15), (36, 16), (0, 5)] (by decide +kernel) (by decide +kernel)) ggL_law_X7_takeForm
theorem dL_law_1971 : decode cL_law 1971 = .ok (.invokevirtual 245, 3) := by decide +kernel
theorem dL_law_1974 : decode cL_law 1974 = .ok (.istore 7, 2) := by decide +kernel
theorem dL_law_1976 : decode cL_law 1976 = .ok (.aload_n 2, 1) := by decide +kernel
theorem dL_law_1977 : decode cL_law 1977 = .ok (.invokevirtual 136, 3) := by decide +kernel
theorem dL_law_1980 : decode cL_law 1980 = .ok (.iload 6, 2) := by decide +kernel
theorem dL_law_1982 : decode cL_law 1982 = .ok (.if_icmp .eq 5, 3) := by decide +kernel
theorem dL_law_1987 : decode cL_law 1987 = .ok (.iload 6, 2) := by decide +kernel
theorem dL_law_2004 : decode cL_law 2004 = .ok (.goto 372, 3) := by decide +kernel
theorem dL_law_1989 : decode cL_law 1989 = .ok (.ifCond .ne 15, 3) := by decide +kernel
theorem dL_law_1992 : decode cL_law 1992 = .ok (.aload_n 3, 1) := by decide +kernel
theorem dL_law_1993 : decode cL_law 1993 = .ok (.iconst 0, 1) := by decide +kernel
theorem dL_law_1994 : decode cL_law 1994 = .ok (.laload, 1) := by decide +kernel
theorem dL_law_1995 : decode cL_law 1995 = .ok (.iload 7, 2) := by decide +kernel
theorem dL_law_1997 : decode cL_law 1997 = .ok (.i2l, 1) := by decide +kernel
theorem dL_law_1998 : decode cL_law 1998 = .ok (.lcmp, 1) := by decide +kernel
theorem dL_law_1999 : decode cL_law 1999 = .ok (.ifCond .eq 5, 3) := by decide +kernel
set_option maxRecDepth 100000 in
set_option maxHeartbeats 4000000 in
theorem law_32 {p : Program} {l : Launch} {e : Env} {s : State} {m : MethodId} {args : Array Value} {below : List Frame} {meth : Method} {c : Code} {a : Nat → Nat} {cy : Nat → ClassId} {D : va_G} {tV : Nat} {sa : Nat → Nat} {Q : State → Prop} {cells slots : Nat} {σ : Sto} {b Ln : Nat} {xs : Nat → Int32} {i : Nat} (hl : l.stackTraces = false) (C : zC p l s m args meth c cL_law 9 wsL_law RL a cy D tV sa) (hX : va_X b Ln xs s s.heap) (hb : b < s.heap.size) (hbA : ¬ zA a s.heap.size b) (hLn : Ln ≤ 2048) (hc1 : cells + 4 ≤ room_1.cells) (hc2 : slots + 24 ≤ room_1.slots) (hLI : LI σ) (hi : i + 4 ≤ Ln) (hK : ∀ σ', LI σ' → zX p l e room_1 s m args below meth c 9 a cy D Q (cells + 4) (slots + 24) σ' 2376 [(5, .int (zI (i : Int))), (4, .ref (a 298)), (3, .ref (a 297)), (2, .ref (a 283)), (1, .ref (a 0)), (0, .ref b)] []) : zX p l e room_1 s m args below meth c 9 a cy D Q cells slots σ 1939 [(5, .int (zI (i : Int))), (4, .ref (a 298)), (3, .ref (a 297)), (2, .ref (a 283)), (1, .ref (a 0)), (0, .ref b)] [] := by
  have hq := p_takeForm (K := LI) hLI (zR_to (xs (Int.toNat ((i : Int) + 1)))) (zR_to (xs (Int.toNat ((i : Int) + 2)))) (fun _ h => h)
  refine zr_aload_n C dL_law_1939 rfl (k := 4) rfl rfl ?_
  refine zr_aload_n C dL_law_1940 rfl (k := 5) rfl rfl ?_
  refine zr_iload C dL_law_1941 (k := 0) rfl rfl ?_
  refine zr_iconst C dL_law_1943 rfl ?_
  refine zr_iadd C dL_law_1944 rfl ?_
  refine zl_sld C hX hb hbA (by omega) (by omega) hLn dL_law_1945 rfl ?_
  refine zr_aload_n C dL_law_1946 rfl (k := 5) rfl rfl ?_
  refine zr_iload C dL_law_1947 (k := 0) rfl rfl ?_
  refine zr_iconst C dL_law_1949 rfl ?_
  refine zr_iadd C dL_law_1950 rfl ?_
  refine zl_sld C hX hb hbA (by omega) (by omega) hLn dL_law_1951 rfl ?_
  refine zr_aload_n C dL_law_1952 rfl (k := 2) rfl rfl ?_
  refine zr_xcall (zrunSX (hh := [(0, 10, 13, 21), (0, 10, 17, 35)]) C (st := []) (mL_takeForm (X := fun _ _ => False) hl zk0 zk297 hq) (vx_cwSW 4 C.2.2.2.2.1 gL_law_L_takeForm rfl rfl rfl (by decide +kernel) ⟨(Nat.le_of_ble_eq_true rfl), (Nat.le_of_ble_eq_true rfl)⟩) rfl rfl (Nat.le_of_ble_eq_true rfl) dL_law_1953 ⟨by omega, by omega⟩) rfl (fun _ _ _ _ _ _ _ _ hx _ _ _ _ _ _ _ => hx.elim) (fun v s1 hv => ?_)
  obtain ⟨r1, rfl, hq⟩ := hv
  refine zr_istore C (L' := [(6, .int (zI r1)), (5, .int (zI (i : Int))), (4, .ref (a 298)), (3, .ref (a 297)), (2, .ref (a 283)), (1, .ref (a 0)), (0, .ref b)]) dL_law_1956 (by decide) rfl rfl ?_
  refine zr_aload_n C dL_law_1958 rfl (k := 4) rfl rfl ?_
  refine zr_aload_n C dL_law_1959 rfl (k := 6) rfl rfl ?_
  refine zr_iload C dL_law_1960 (k := 1) rfl rfl ?_
  refine zr_iconst C dL_law_1962 rfl ?_
  refine zr_iadd C dL_law_1963 rfl ?_
  refine zl_sld C hX hb hbA (by omega) (by omega) hLn dL_law_1964 rfl ?_
  refine zr_aload_n C dL_law_1965 rfl (k := 6) rfl rfl ?_
  refine zr_iload C dL_law_1966 (k := 1) rfl rfl ?_
  refine zr_iconst C dL_law_1968 rfl ?_
  refine zr_iadd C dL_law_1969 rfl ?_
  refine zl_sld C hX hb hbA (by omega) (by omega) hLn dL_law_1970 rfl ?_
  refine zr_calli (zrunV C (st := []) (mX7_takeForm zk283 hq) (cwV 2 C.2.2.2.2.1 gL_law_X7_takeForm rfl rfl rfl (by decide +kernel) ⟨(Nat.le_of_ble_eq_true rfl), (Nat.le_of_ble_eq_true rfl)⟩) (zE_6 zk283) (zk_lt zk283 (by decide)) (T := TX7) (N := 19) rfl rfl rfl (Nat.le_of_ble_eq_true rfl) dL_law_1971 ⟨by omega, by omega⟩) rfl (fun b1 s2 hq => ?_)
  refine zr_istore C (L' := [(7, .int (zI b1)), (6, .int (zI r1)), (5, .int (zI (i : Int))), (4, .ref (a 298)), (3, .ref (a 297)), (2, .ref (a 283)), (1, .ref (a 0)), (0, .ref b)]) dL_law_1974 (by decide) rfl rfl ?_
  refine zr_aload_n C dL_law_1976 rfl (k := 5) rfl rfl ?_
  refine zr_calli (zrunV C (st := []) (mX7_thrown zk283 (P := fun y t => y = s2 283 7 ∧ t = s2) ⟨rfl, rfl⟩) (cwV 0 C.2.2.2.2.1 gL_law_X7_thrown rfl rfl rfl (by decide +kernel) ⟨(Nat.le_of_ble_eq_true rfl), (Nat.le_of_ble_eq_true rfl)⟩) (zE_6 zk283) (zk_lt zk283 (by decide)) (T := TX7) (N := 19) rfl rfl rfl (Nat.le_of_ble_eq_true rfl) dL_law_1977 ⟨by omega, by omega⟩) rfl (fun y s3 hy => ?_)
  obtain ⟨rfl, rfl⟩ := hy
  obtain ⟨t1, t2, t3, t4⟩ := hq
  refine zr_iload C dL_law_1980 (k := 1) rfl rfl ?_
  have hr1 : zR r1 := zR_s (by omega) (by omega)
  refine zr_icmp_eq C (tgt := 1987) dL_law_1982 (by decide) (by rw [t1]; exact hr1) hr1 rfl (fun z => ?_) (fun z => absurd t1 z)
  refine zr_iload C dL_law_1987 (k := 1) rfl rfl ?_
  have hT2 : zX p l e room_1 s m args below meth c 9 a cy D Q (cells + 4) (slots + 24) s3 2004 [(7, .int (zI b1)), (6, .int (zI r1)), (5, .int (zI (i : Int))), (4, .ref (a 298)), (3, .ref (a 297)), (2, .ref (a 283)), (1, .ref (a 0)), (0, .ref b)] [] := by
    refine zr_goto C (tgt := 2376) dL_law_2004 (by decide) ?_
    exact zr_widen (by omega) (by omega) (zr_sub C [2, 3, 4, 5, 6, 7] rfl (hK _ t4))
  refine zr_if_ne C (tgt := 2004) dL_law_1989 (by decide) hr1 rfl (fun z => hT2) (fun z => ?_)
  have t3 := t3 z
  refine zr_aload_n C dL_law_1992 rfl (k := 4) rfl rfl ?_
  refine zr_iconst C dL_law_1993 rfl ?_
  refine zr_lald C zk297 (by decide) (by rw [zn297.1]; decide) dL_law_1994 rfl ?_
  refine zr_iload C dL_law_1995 (k := 0) rfl rfl ?_
  refine zr_i2l C dL_law_1997 t3.1 rfl ?_
  have e0 : s3 297 (Int.toNat 0) = b1 := t3.2
  refine zr_lcmp C dL_law_1998 (by rw [e0]; exact zQ_R t3.1) (zQ_R t3.1) rfl ?_
  refine zr_if_eq C (tgt := 2004) dL_law_1999 (by decide) (zcmp_R _ _) rfl (fun z => hT2) (fun z => absurd (by rw [e0]; exact zcmp_self _) z)
theorem dL_law_2007 : decode cL_law 2007 = .ok (.aload_n 1, 1) := by decide +kernel
theorem dL_law_2008 : decode cL_law 2008 = .ok (.aload_n 0, 1) := by decide +kernel
theorem dL_law_2009 : decode cL_law 2009 = .ok (.iload 5, 2) := by decide +kernel
theorem dL_law_2011 : decode cL_law 2011 = .ok (.iconst 1, 1) := by decide +kernel
theorem dL_law_2012 : decode cL_law 2012 = .ok (.iadd, 1) := by decide +kernel
theorem dL_law_2013 : decode cL_law 2013 = .ok (.iaload, 1) := by decide +kernel
theorem dL_law_2014 : decode cL_law 2014 = .ok (.aload_n 0, 1) := by decide +kernel
theorem dL_law_2015 : decode cL_law 2015 = .ok (.iload 5, 2) := by decide +kernel
theorem dL_law_2017 : decode cL_law 2017 = .ok (.iconst 2, 1) := by decide +kernel
theorem dL_law_2018 : decode cL_law 2018 = .ok (.iadd, 1) := by decide +kernel
theorem dL_law_2019 : decode cL_law 2019 = .ok (.iaload, 1) := by decide +kernel
theorem dL_law_2020 : decode cL_law 2020 = .ok (.aload_n 3, 1) := by decide +kernel
set_option maxRecDepth 20000 in
theorem ggL_law_L_hasForm : GoodIn wsL_law wsL_hasForm := goodIn_ca (goodIn_rr [(36, 20), (6, 5), (36, 21), (36, 22), (36, 23), (0, 2), (37, 0), (33, 12), (33, 13), (33, 14), (33, 15), (6, 10), (6, 11), (0, 21), (18, 21), (18, 22), (18, 23), (19, 0), (31, 2), (31, 3), (31, 4), (31, 5), (1, 8), (25, 23), (26, 0), (23, 16), (26, 1), (26, 2), (31, 6), (31, 7), (31, 8), (31, 9), (1, 7), (31, 10), (31, 11), (31, 12), (0, 20), (31, 13), (2, 7), (9, 22), (9, 23), (5, 18), (5, 19), (5, 20), (0, 16), (5, 21), (4, 20), (10, 0), (21, 7), (16, 13), (16, 14), (1, 23), (16, 15), (2, 12), (2, 13), (16, 16), (7, 6), (7, 7), (7, 8), (2, 14), (31, 14), (31, 15), (31, 16), (27, 8), (26, 10), (26, 11), (26, 12), (31, 17), (31, 18), (27, 5), (27, 6), (27, 7), (31, 19), (4, 17), (4, 18), (4, 19), (1, 13), (15, 16), (15, 17), (15, 18), (15, 19), (2, 1), (2, 3), (2, 2), (2, 4), (15, 20), (15, 21), (15, 22), (15, 23), (14, 14), (14, 15), (14, 16), (14, 17), (16, 0), (16, 1), (16, 2), (16, 3), (16, 4), (16, 5), (16, 6), (16, 7), (16, 8), (16, 9), (16, 10), (16, 11), (14, 12), (14, 13), (16, 12), (17, 19), (17, 20), (17, 21), (17, 22), (17, 23), (27, 20), (27, 21), (27, 22), (42, 0), (42, 1), (42, 2), (42, 3), (42, 4), (42, 5), (42, 6), (42, 7), (45, 0), (45, 1), (45, 2), (45, 3), (45, 4), (45, 5), (45, 6), (45, 7), (45, 8), (45, 9), (45, 10), (45, 11), (45, 12), (45, 13), (48, 0), (48, 1), (48, 2), (44, 0), (44, 1)] (by decide +kernel) (by decide +kernel)) (goodIn_sub (fun _ h => List.mem_append_left _ (List.mem_append_right _ h)) (all_gw _))
set_option maxRecDepth 20000 in
theorem gL_law_L_hasForm : GoodIn wsL_law (va_wsS RL 246 yL_hasForm wsL_hasForm) := goodIn_app (goodIn_rr [(36, 18), (36, 19), (4, 4)] (by decide +kernel) (by decide +kernel)) ggL_law_L_hasForm
theorem dL_law_2021 : decode cL_law 2021 = .ok (.invokestatic 246, 3) := by decide +kernel
theorem dL_law_2024 : decode cL_law 2024 = .ok (.istore 6, 2) := by decide +kernel
theorem dL_law_2026 : decode cL_law 2026 = .ok (.aload_n 2, 1) := by decide +kernel
theorem dL_law_2027 : decode cL_law 2027 = .ok (.aload_n 0, 1) := by decide +kernel
theorem dL_law_2028 : decode cL_law 2028 = .ok (.iload 5, 2) := by decide +kernel
theorem dL_law_2030 : decode cL_law 2030 = .ok (.iconst 1, 1) := by decide +kernel
theorem dL_law_2031 : decode cL_law 2031 = .ok (.iadd, 1) := by decide +kernel
theorem dL_law_2032 : decode cL_law 2032 = .ok (.iaload, 1) := by decide +kernel
theorem dL_law_2033 : decode cL_law 2033 = .ok (.aload_n 0, 1) := by decide +kernel
theorem dL_law_2034 : decode cL_law 2034 = .ok (.iload 5, 2) := by decide +kernel
theorem dL_law_2036 : decode cL_law 2036 = .ok (.iconst 2, 1) := by decide +kernel
theorem dL_law_2037 : decode cL_law 2037 = .ok (.iadd, 1) := by decide +kernel
theorem dL_law_2038 : decode cL_law 2038 = .ok (.iaload, 1) := by decide +kernel
set_option maxRecDepth 20000 in
theorem ggL_law_X7_hasForm : GoodIn wsL_law wsX7_hasForm := goodIn_rr [(37, 4), (5, 3), (34, 2), (34, 3), (34, 4), (0, 5), (34, 5), (3, 12), (5, 4), (5, 5), (5, 6), (19, 9), (19, 10), (19, 11), (19, 12), (32, 9), (32, 10), (32, 11), (32, 12), (3, 16), (30, 8), (30, 9), (30, 10), (10, 19), (10, 20), (10, 21), (10, 22), (8, 16), (8, 17), (8, 18), (32, 13), (32, 14), (32, 15), (32, 16), (30, 15), (30, 16), (30, 17), (13, 14), (13, 15), (13, 16), (17, 2), (17, 3), (17, 4), (17, 5), (10, 23), (11, 0), (11, 1), (15, 5), (15, 6), (15, 7), (5, 7), (5, 8), (5, 9), (17, 6), (17, 7), (17, 8), (15, 2), (15, 3), (15, 4), (17, 9), (17, 10), (17, 11), (18, 8), (18, 9), (18, 10), (18, 11), (18, 12), (18, 13), (43, 0), (43, 1), (43, 2), (43, 3), (43, 4), (43, 5), (43, 6), (43, 7), (43, 8), (43, 9), (43, 10), (43, 11), (43, 12), (43, 13), (43, 14), (43, 15), (43, 16), (43, 17), (43, 18)] (by decide +kernel) (by decide +kernel)
set_option maxRecDepth 20000 in
theorem gL_law_X7_hasForm : GoodIn wsL_law (wsV RL 248 RX7 yX7_hasForm wsX7_hasForm) := goodIn_app (goodIn_rr [(37, 1), (37, 2), (37, 3), (0, 5)] (by decide +kernel) (by decide +kernel)) ggL_law_X7_hasForm
theorem dL_law_2039 : decode cL_law 2039 = .ok (.invokevirtual 248, 3) := by decide +kernel
theorem dL_law_2042 : decode cL_law 2042 = .ok (.istore 7, 2) := by decide +kernel
theorem dL_law_2044 : decode cL_law 2044 = .ok (.aload_n 2, 1) := by decide +kernel
theorem dL_law_2045 : decode cL_law 2045 = .ok (.invokevirtual 136, 3) := by decide +kernel
theorem dL_law_2048 : decode cL_law 2048 = .ok (.iload 6, 2) := by decide +kernel
theorem dL_law_2050 : decode cL_law 2050 = .ok (.if_icmp .eq 5, 3) := by decide +kernel
theorem dL_law_2055 : decode cL_law 2055 = .ok (.iload 6, 2) := by decide +kernel
theorem dL_law_2079 : decode cL_law 2079 = .ok (.goto 297, 3) := by decide +kernel
theorem dL_law_2057 : decode cL_law 2057 = .ok (.ifCond .ne 22, 3) := by decide +kernel
theorem dL_law_2060 : decode cL_law 2060 = .ok (.aload_n 3, 1) := by decide +kernel
theorem dL_law_2061 : decode cL_law 2061 = .ok (.iconst 0, 1) := by decide +kernel
theorem dL_law_2062 : decode cL_law 2062 = .ok (.laload, 1) := by decide +kernel
theorem dL_law_2063 : decode cL_law 2063 = .ok (.iload 7, 2) := by decide +kernel
theorem dL_law_2073 : decode cL_law 2073 = .ok (.lcmp, 1) := by decide +kernel
theorem dL_law_2074 : decode cL_law 2074 = .ok (.ifCond .eq 5, 3) := by decide +kernel
theorem dL_law_2065 : decode cL_law 2065 = .ok (.ifCond .eq 7, 3) := by decide +kernel
theorem dL_law_2072 : decode cL_law 2072 = .ok (.lconst 0, 1) := by decide +kernel
theorem dL_law_2068 : decode cL_law 2068 = .ok (.lconst 1, 1) := by decide +kernel
theorem dL_law_2069 : decode cL_law 2069 = .ok (.goto 4, 3) := by decide +kernel
set_option maxRecDepth 100000 in
set_option maxHeartbeats 4000000 in
theorem law_33 {p : Program} {l : Launch} {e : Env} {s : State} {m : MethodId} {args : Array Value} {below : List Frame} {meth : Method} {c : Code} {a : Nat → Nat} {cy : Nat → ClassId} {D : va_G} {tV : Nat} {sa : Nat → Nat} {Q : State → Prop} {cells slots : Nat} {σ : Sto} {b Ln : Nat} {xs : Nat → Int32} {i : Nat} (hl : l.stackTraces = false) (C : zC p l s m args meth c cL_law 9 wsL_law RL a cy D tV sa) (hX : va_X b Ln xs s s.heap) (hb : b < s.heap.size) (hbA : ¬ zA a s.heap.size b) (hLn : Ln ≤ 2048) (hc1 : cells + 4 ≤ room_1.cells) (hc2 : slots + 24 ≤ room_1.slots) (hLI : LI σ) (hi : i + 4 ≤ Ln) (hK : ∀ σ', LI σ' → zX p l e room_1 s m args below meth c 9 a cy D Q (cells + 4) (slots + 24) σ' 2376 [(5, .int (zI (i : Int))), (4, .ref (a 298)), (3, .ref (a 297)), (2, .ref (a 283)), (1, .ref (a 0)), (0, .ref b)] []) : zX p l e room_1 s m args below meth c 9 a cy D Q cells slots σ 2007 [(5, .int (zI (i : Int))), (4, .ref (a 298)), (3, .ref (a 297)), (2, .ref (a 283)), (1, .ref (a 0)), (0, .ref b)] [] := by
  have hq := p_hasForm (K := LI) hLI (zR_to (xs (Int.toNat ((i : Int) + 1)))) (zR_to (xs (Int.toNat ((i : Int) + 2)))) (fun _ h => h)
  refine zr_aload_n C dL_law_2007 rfl (k := 4) rfl rfl ?_
  refine zr_aload_n C dL_law_2008 rfl (k := 5) rfl rfl ?_
  refine zr_iload C dL_law_2009 (k := 0) rfl rfl ?_
  refine zr_iconst C dL_law_2011 rfl ?_
  refine zr_iadd C dL_law_2012 rfl ?_
  refine zl_sld C hX hb hbA (by omega) (by omega) hLn dL_law_2013 rfl ?_
  refine zr_aload_n C dL_law_2014 rfl (k := 5) rfl rfl ?_
  refine zr_iload C dL_law_2015 (k := 0) rfl rfl ?_
  refine zr_iconst C dL_law_2017 rfl ?_
  refine zr_iadd C dL_law_2018 rfl ?_
  refine zl_sld C hX hb hbA (by omega) (by omega) hLn dL_law_2019 rfl ?_
  refine zr_aload_n C dL_law_2020 rfl (k := 2) rfl rfl ?_
  refine zr_xcall (zrunSX (hh := [(0, 17, 20, 21)]) C (st := []) (mL_hasForm (X := fun _ _ => False) hl zk0 zk297 hq) (vx_cwSW 4 C.2.2.2.2.1 gL_law_L_hasForm rfl rfl rfl (by decide +kernel) ⟨(Nat.le_of_ble_eq_true rfl), (Nat.le_of_ble_eq_true rfl)⟩) rfl rfl (Nat.le_of_ble_eq_true rfl) dL_law_2021 ⟨by omega, by omega⟩) rfl (fun _ _ _ _ _ _ _ _ hx _ _ _ _ _ _ _ => hx.elim) (fun v s1 hv => ?_)
  obtain ⟨r1, rfl, hq⟩ := hv
  refine zr_istore C (L' := [(6, .int (zI r1)), (5, .int (zI (i : Int))), (4, .ref (a 298)), (3, .ref (a 297)), (2, .ref (a 283)), (1, .ref (a 0)), (0, .ref b)]) dL_law_2024 (by decide) rfl rfl ?_
  refine zr_aload_n C dL_law_2026 rfl (k := 4) rfl rfl ?_
  refine zr_aload_n C dL_law_2027 rfl (k := 6) rfl rfl ?_
  refine zr_iload C dL_law_2028 (k := 1) rfl rfl ?_
  refine zr_iconst C dL_law_2030 rfl ?_
  refine zr_iadd C dL_law_2031 rfl ?_
  refine zl_sld C hX hb hbA (by omega) (by omega) hLn dL_law_2032 rfl ?_
  refine zr_aload_n C dL_law_2033 rfl (k := 6) rfl rfl ?_
  refine zr_iload C dL_law_2034 (k := 1) rfl rfl ?_
  refine zr_iconst C dL_law_2036 rfl ?_
  refine zr_iadd C dL_law_2037 rfl ?_
  refine zl_sld C hX hb hbA (by omega) (by omega) hLn dL_law_2038 rfl ?_
  refine zr_calli (zrunV C (st := []) (mX7_hasForm zk283 hq) (cwV 2 C.2.2.2.2.1 gL_law_X7_hasForm rfl rfl rfl (by decide +kernel) ⟨(Nat.le_of_ble_eq_true rfl), (Nat.le_of_ble_eq_true rfl)⟩) (zE_6 zk283) (zk_lt zk283 (by decide)) (T := TX7) (N := 19) rfl rfl rfl (Nat.le_of_ble_eq_true rfl) dL_law_2039 ⟨by omega, by omega⟩) rfl (fun b1 s2 hq => ?_)
  refine zr_istore C (L' := [(7, .int (zI b1)), (6, .int (zI r1)), (5, .int (zI (i : Int))), (4, .ref (a 298)), (3, .ref (a 297)), (2, .ref (a 283)), (1, .ref (a 0)), (0, .ref b)]) dL_law_2042 (by decide) rfl rfl ?_
  refine zr_aload_n C dL_law_2044 rfl (k := 5) rfl rfl ?_
  refine zr_calli (zrunV C (st := []) (mX7_thrown zk283 (P := fun y t => y = s2 283 7 ∧ t = s2) ⟨rfl, rfl⟩) (cwV 0 C.2.2.2.2.1 gL_law_X7_thrown rfl rfl rfl (by decide +kernel) ⟨(Nat.le_of_ble_eq_true rfl), (Nat.le_of_ble_eq_true rfl)⟩) (zE_6 zk283) (zk_lt zk283 (by decide)) (T := TX7) (N := 19) rfl rfl rfl (Nat.le_of_ble_eq_true rfl) dL_law_2045 ⟨by omega, by omega⟩) rfl (fun y s3 hy => ?_)
  obtain ⟨rfl, rfl⟩ := hy
  obtain ⟨t1, t2, t3, t4⟩ := hq
  refine zr_iload C dL_law_2048 (k := 1) rfl rfl ?_
  have hr1 : zR r1 := zR_s (by omega) (by omega)
  refine zr_icmp_eq C (tgt := 2055) dL_law_2050 (by decide) (by rw [t1]; exact hr1) hr1 rfl (fun z => ?_) (fun z => absurd t1 z)
  refine zr_iload C dL_law_2055 (k := 1) rfl rfl ?_
  have hT2 : zX p l e room_1 s m args below meth c 9 a cy D Q (cells + 2) (slots + 12) s3 2079 [(7, .int (zI b1)), (6, .int (zI r1)), (5, .int (zI (i : Int))), (4, .ref (a 298)), (3, .ref (a 297)), (2, .ref (a 283)), (1, .ref (a 0)), (0, .ref b)] [] := by
    refine zr_goto C (tgt := 2376) dL_law_2079 (by decide) ?_
    exact zr_widen (by omega) (by omega) (zr_sub C [2, 3, 4, 5, 6, 7] rfl (hK _ t4))
  refine zr_if_ne C (tgt := 2079) dL_law_2057 (by decide) hr1 rfl (fun z => hT2) (fun z => ?_)
  have t3 := t3 z
  refine zr_aload_n C dL_law_2060 rfl (k := 4) rfl rfl ?_
  refine zr_iconst C dL_law_2061 rfl ?_
  refine zr_lald C zk297 (by decide) (by rw [zn297.1]; decide) dL_law_2062 rfl ?_
  refine zr_iload C dL_law_2063 (k := 0) rfl rfl ?_
  have e0 : s3 297 (Int.toNat 0) = b1 := t3.2
  have rb : zR b1 := by rcases t3.1 with h | h <;> rw [h] <;> exact zRl rfl
  have hC : ∀ w : Int, w = b1 → zX p l e room_1 s m args below meth c 9 a cy D Q (cells + 2) (slots + 12) s3 2073 [(7, .int (zI b1)), (6, .int (zI r1)), (5, .int (zI (i : Int))), (4, .ref (a 298)), (3, .ref (a 297)), (2, .ref (a 283)), (1, .ref (a 0)), (0, .ref b)] [.long (zJ w), .long (zJ (s3 297 (Int.toNat 0)))] := fun w ew => by
    refine zr_lcmp C dL_law_2073 (by rw [e0]; exact zQ_R rb) (by rw [ew]; exact zQ_R rb) rfl ?_
    exact zr_if_eq C (tgt := 2079) dL_law_2074 (by decide) (zcmp_R _ _) rfl (fun z => hT2) (fun z => absurd (by rw [e0, ew]; exact zcmp_self _) z)
  refine zr_if_eq C (tgt := 2072) dL_law_2065 (by decide) rb rfl (fun z => ?_) (fun z => ?_)
  · refine zr_lconst C (x := 0) dL_law_2072 rfl rfl ?_
    exact hC 0 z.symm
  · refine zr_lconst C (x := 1) dL_law_2068 rfl rfl ?_
    refine zr_goto C (tgt := 2073) dL_law_2069 (by decide) ?_
    exact hC 1 (by rcases t3.1 with h | h <;> omega)
theorem dL_law_2082 : decode cL_law 2082 = .ok (.aload_n 1, 1) := by decide +kernel
theorem dL_law_2083 : decode cL_law 2083 = .ok (.aload_n 0, 1) := by decide +kernel
theorem dL_law_2084 : decode cL_law 2084 = .ok (.iload 5, 2) := by decide +kernel
theorem dL_law_2086 : decode cL_law 2086 = .ok (.iconst 1, 1) := by decide +kernel
theorem dL_law_2087 : decode cL_law 2087 = .ok (.iadd, 1) := by decide +kernel
theorem dL_law_2088 : decode cL_law 2088 = .ok (.iaload, 1) := by decide +kernel
theorem dL_law_2089 : decode cL_law 2089 = .ok (.aload_n 3, 1) := by decide +kernel
set_option maxRecDepth 20000 in
theorem ggL_law_L_missing : GoodIn wsL_law wsL_missing := goodIn_ca (goodIn_rr [(37, 7), (6, 5), (37, 8), (37, 9), (37, 10), (0, 2), (37, 11), (0, 21), (33, 12), (33, 13), (33, 14), (33, 15), (6, 10), (6, 11), (25, 23), (26, 0), (23, 16), (26, 1), (26, 2), (37, 12), (37, 13), (37, 14), (37, 15), (1, 8), (31, 6), (31, 7), (31, 8), (31, 9), (1, 7), (31, 10), (31, 11), (31, 12), (0, 20), (31, 13), (2, 7), (9, 22), (9, 23), (5, 18), (5, 19), (5, 20), (0, 16), (5, 21), (4, 20), (10, 0), (21, 7), (16, 13), (16, 14), (1, 23), (16, 15), (2, 12), (2, 13), (16, 16), (7, 6), (7, 7), (7, 8), (2, 14), (31, 14), (31, 15), (31, 16), (27, 8), (26, 10), (26, 11), (26, 12), (31, 17), (31, 18), (27, 5), (27, 6), (27, 7), (31, 19), (4, 17), (4, 18), (4, 19), (1, 13), (15, 16), (15, 17), (15, 18), (15, 19), (2, 1), (2, 3), (2, 2), (2, 4), (15, 20), (15, 21), (15, 22), (15, 23), (14, 14), (14, 15), (14, 16), (14, 17), (16, 0), (16, 1), (16, 2), (16, 3), (16, 4), (16, 5), (16, 6), (16, 7), (16, 8), (16, 9), (16, 10), (16, 11), (14, 12), (14, 13), (16, 12), (17, 19), (17, 20), (17, 21), (17, 22), (17, 23), (42, 0), (42, 1), (42, 2), (42, 3), (42, 4), (42, 5), (42, 6), (42, 7), (45, 0), (45, 1), (45, 2), (45, 3), (45, 4), (45, 5), (45, 6), (45, 7), (45, 8), (45, 9), (45, 10), (45, 11), (45, 12), (45, 13), (48, 0), (48, 1), (48, 2), (44, 0), (44, 1)] (by decide +kernel) (by decide +kernel)) (goodIn_sub (fun _ h => List.mem_append_left _ (List.mem_append_right _ h)) (all_gw _))
set_option maxRecDepth 20000 in
theorem gL_law_L_missing : GoodIn wsL_law (va_wsS RL 249 yL_missing wsL_missing) := goodIn_app (goodIn_rr [(37, 5), (37, 6), (4, 4)] (by decide +kernel) (by decide +kernel)) ggL_law_L_missing
theorem dL_law_2090 : decode cL_law 2090 = .ok (.invokestatic 249, 3) := by decide +kernel
theorem dL_law_2093 : decode cL_law 2093 = .ok (.istore 6, 2) := by decide +kernel
theorem dL_law_2095 : decode cL_law 2095 = .ok (.aload_n 2, 1) := by decide +kernel
theorem dL_law_2096 : decode cL_law 2096 = .ok (.aload_n 0, 1) := by decide +kernel
theorem dL_law_2097 : decode cL_law 2097 = .ok (.iload 5, 2) := by decide +kernel
theorem dL_law_2099 : decode cL_law 2099 = .ok (.iconst 1, 1) := by decide +kernel
theorem dL_law_2100 : decode cL_law 2100 = .ok (.iadd, 1) := by decide +kernel
theorem dL_law_2101 : decode cL_law 2101 = .ok (.iaload, 1) := by decide +kernel
set_option maxRecDepth 20000 in
theorem ggL_law_X7_missing : GoodIn wsL_law wsX7_missing := goodIn_rr [(37, 19), (5, 3), (34, 2), (34, 3), (34, 4), (0, 5), (34, 5), (3, 12), (5, 4), (5, 5), (5, 6), (37, 20), (37, 21), (37, 22), (37, 23), (30, 8), (30, 9), (30, 10), (10, 19), (10, 20), (10, 21), (10, 22), (8, 16), (8, 17), (8, 18), (38, 0), (38, 1), (38, 2), (38, 3), (3, 16), (32, 13), (32, 14), (32, 15), (32, 16), (30, 15), (30, 16), (30, 17), (13, 14), (13, 15), (13, 16), (17, 2), (17, 3), (17, 4), (17, 5), (10, 23), (11, 0), (11, 1), (15, 5), (15, 6), (15, 7), (5, 7), (5, 8), (5, 9), (17, 6), (17, 7), (17, 8), (15, 2), (15, 3), (15, 4), (17, 9), (17, 10), (17, 11), (18, 4), (18, 5), (18, 6), (18, 7), (18, 8), (18, 9), (18, 10), (18, 11), (18, 12), (18, 13), (43, 0), (43, 1), (43, 2), (43, 3), (43, 4), (43, 5), (43, 6), (43, 7), (43, 8), (43, 9), (43, 10), (43, 11), (43, 12), (43, 13), (43, 14), (43, 15), (43, 16), (43, 17), (43, 18)] (by decide +kernel) (by decide +kernel)
set_option maxRecDepth 20000 in
theorem gL_law_X7_missing : GoodIn wsL_law (wsV RL 251 RX7 yX7_missing wsX7_missing) := goodIn_app (goodIn_rr [(37, 16), (37, 17), (37, 18), (0, 5)] (by decide +kernel) (by decide +kernel)) ggL_law_X7_missing
theorem dL_law_2102 : decode cL_law 2102 = .ok (.invokevirtual 251, 3) := by decide +kernel
theorem dL_law_2105 : decode cL_law 2105 = .ok (.istore 7, 2) := by decide +kernel
theorem dL_law_2107 : decode cL_law 2107 = .ok (.aload_n 2, 1) := by decide +kernel
theorem dL_law_2108 : decode cL_law 2108 = .ok (.invokevirtual 136, 3) := by decide +kernel
theorem dL_law_2111 : decode cL_law 2111 = .ok (.iload 6, 2) := by decide +kernel
theorem dL_law_2113 : decode cL_law 2113 = .ok (.if_icmp .eq 5, 3) := by decide +kernel
theorem dL_law_2118 : decode cL_law 2118 = .ok (.iload 6, 2) := by decide +kernel
theorem dL_law_2135 : decode cL_law 2135 = .ok (.goto 241, 3) := by decide +kernel
theorem dL_law_2120 : decode cL_law 2120 = .ok (.ifCond .ne 15, 3) := by decide +kernel
theorem dL_law_2123 : decode cL_law 2123 = .ok (.aload_n 3, 1) := by decide +kernel
theorem dL_law_2124 : decode cL_law 2124 = .ok (.iconst 0, 1) := by decide +kernel
theorem dL_law_2125 : decode cL_law 2125 = .ok (.laload, 1) := by decide +kernel
theorem dL_law_2126 : decode cL_law 2126 = .ok (.iload 7, 2) := by decide +kernel
theorem dL_law_2128 : decode cL_law 2128 = .ok (.i2l, 1) := by decide +kernel
theorem dL_law_2129 : decode cL_law 2129 = .ok (.lcmp, 1) := by decide +kernel
theorem dL_law_2130 : decode cL_law 2130 = .ok (.ifCond .eq 5, 3) := by decide +kernel
set_option maxRecDepth 100000 in
set_option maxHeartbeats 4000000 in
theorem law_34 {p : Program} {l : Launch} {e : Env} {s : State} {m : MethodId} {args : Array Value} {below : List Frame} {meth : Method} {c : Code} {a : Nat → Nat} {cy : Nat → ClassId} {D : va_G} {tV : Nat} {sa : Nat → Nat} {Q : State → Prop} {cells slots : Nat} {σ : Sto} {b Ln : Nat} {xs : Nat → Int32} {i : Nat} (hl : l.stackTraces = false) (C : zC p l s m args meth c cL_law 9 wsL_law RL a cy D tV sa) (hX : va_X b Ln xs s s.heap) (hb : b < s.heap.size) (hbA : ¬ zA a s.heap.size b) (hLn : Ln ≤ 2048) (hc1 : cells + 4 ≤ room_1.cells) (hc2 : slots + 24 ≤ room_1.slots) (hLI : LI σ) (hi : i + 4 ≤ Ln) (hK : ∀ σ', LI σ' → zX p l e room_1 s m args below meth c 9 a cy D Q (cells + 4) (slots + 24) σ' 2376 [(5, .int (zI (i : Int))), (4, .ref (a 298)), (3, .ref (a 297)), (2, .ref (a 283)), (1, .ref (a 0)), (0, .ref b)] []) : zX p l e room_1 s m args below meth c 9 a cy D Q cells slots σ 2082 [(5, .int (zI (i : Int))), (4, .ref (a 298)), (3, .ref (a 297)), (2, .ref (a 283)), (1, .ref (a 0)), (0, .ref b)] [] := by
  have hq := p_missing (K := LI) hLI (zR_to (xs (Int.toNat ((i : Int) + 1)))) (fun _ h => h)
  refine zr_aload_n C dL_law_2082 rfl (k := 4) rfl rfl ?_
  refine zr_aload_n C dL_law_2083 rfl (k := 5) rfl rfl ?_
  refine zr_iload C dL_law_2084 (k := 0) rfl rfl ?_
  refine zr_iconst C dL_law_2086 rfl ?_
  refine zr_iadd C dL_law_2087 rfl ?_
  refine zl_sld C hX hb hbA (by omega) (by omega) hLn dL_law_2088 rfl ?_
  refine zr_aload_n C dL_law_2089 rfl (k := 2) rfl rfl ?_
  refine zr_xcall (zrunSX (hh := [(0, 9, 12, 21)]) C (st := []) (mL_missing (X := fun _ _ => False) hl zk0 zk297 hq) (vx_cwSW 3 C.2.2.2.2.1 gL_law_L_missing rfl rfl rfl (by decide +kernel) ⟨(Nat.le_of_ble_eq_true rfl), (Nat.le_of_ble_eq_true rfl)⟩) rfl rfl (Nat.le_of_ble_eq_true rfl) dL_law_2090 ⟨by omega, by omega⟩) rfl (fun _ _ _ _ _ _ _ _ hx _ _ _ _ _ _ _ => hx.elim) (fun v s1 hv => ?_)
  obtain ⟨r1, rfl, hq⟩ := hv
  refine zr_istore C (L' := [(6, .int (zI r1)), (5, .int (zI (i : Int))), (4, .ref (a 298)), (3, .ref (a 297)), (2, .ref (a 283)), (1, .ref (a 0)), (0, .ref b)]) dL_law_2093 (by decide) rfl rfl ?_
  refine zr_aload_n C dL_law_2095 rfl (k := 4) rfl rfl ?_
  refine zr_aload_n C dL_law_2096 rfl (k := 6) rfl rfl ?_
  refine zr_iload C dL_law_2097 (k := 1) rfl rfl ?_
  refine zr_iconst C dL_law_2099 rfl ?_
  refine zr_iadd C dL_law_2100 rfl ?_
  refine zl_sld C hX hb hbA (by omega) (by omega) hLn dL_law_2101 rfl ?_
  refine zr_calli (zrunV C (st := []) (mX7_missing zk283 hq) (cwV 1 C.2.2.2.2.1 gL_law_X7_missing rfl rfl rfl (by decide +kernel) ⟨(Nat.le_of_ble_eq_true rfl), (Nat.le_of_ble_eq_true rfl)⟩) (zE_6 zk283) (zk_lt zk283 (by decide)) (T := TX7) (N := 19) rfl rfl rfl (Nat.le_of_ble_eq_true rfl) dL_law_2102 ⟨by omega, by omega⟩) rfl (fun b1 s2 hq => ?_)
  refine zr_istore C (L' := [(7, .int (zI b1)), (6, .int (zI r1)), (5, .int (zI (i : Int))), (4, .ref (a 298)), (3, .ref (a 297)), (2, .ref (a 283)), (1, .ref (a 0)), (0, .ref b)]) dL_law_2105 (by decide) rfl rfl ?_
  refine zr_aload_n C dL_law_2107 rfl (k := 5) rfl rfl ?_
  refine zr_calli (zrunV C (st := []) (mX7_thrown zk283 (P := fun y t => y = s2 283 7 ∧ t = s2) ⟨rfl, rfl⟩) (cwV 0 C.2.2.2.2.1 gL_law_X7_thrown rfl rfl rfl (by decide +kernel) ⟨(Nat.le_of_ble_eq_true rfl), (Nat.le_of_ble_eq_true rfl)⟩) (zE_6 zk283) (zk_lt zk283 (by decide)) (T := TX7) (N := 19) rfl rfl rfl (Nat.le_of_ble_eq_true rfl) dL_law_2108 ⟨by omega, by omega⟩) rfl (fun y s3 hy => ?_)
  obtain ⟨rfl, rfl⟩ := hy
  obtain ⟨t1, t2, t3, t4⟩ := hq
  refine zr_iload C dL_law_2111 (k := 1) rfl rfl ?_
  have hr1 : zR r1 := zR_s (by omega) (by omega)
  refine zr_icmp_eq C (tgt := 2118) dL_law_2113 (by decide) (by rw [t1]; exact hr1) hr1 rfl (fun z => ?_) (fun z => absurd t1 z)
  refine zr_iload C dL_law_2118 (k := 1) rfl rfl ?_
  have hT2 : zX p l e room_1 s m args below meth c 9 a cy D Q (cells + 1) (slots + 6) s3 2135 [(7, .int (zI b1)), (6, .int (zI r1)), (5, .int (zI (i : Int))), (4, .ref (a 298)), (3, .ref (a 297)), (2, .ref (a 283)), (1, .ref (a 0)), (0, .ref b)] [] := by
    refine zr_goto C (tgt := 2376) dL_law_2135 (by decide) ?_
    exact zr_widen (by omega) (by omega) (zr_sub C [2, 3, 4, 5, 6, 7] rfl (hK _ t4))
  refine zr_if_ne C (tgt := 2135) dL_law_2120 (by decide) hr1 rfl (fun z => hT2) (fun z => ?_)
  have t3 := t3 z
  refine zr_aload_n C dL_law_2123 rfl (k := 4) rfl rfl ?_
  refine zr_iconst C dL_law_2124 rfl ?_
  refine zr_lald C zk297 (by decide) (by rw [zn297.1]; decide) dL_law_2125 rfl ?_
  refine zr_iload C dL_law_2126 (k := 0) rfl rfl ?_
  refine zr_i2l C dL_law_2128 t3.1 rfl ?_
  have e0 : s3 297 (Int.toNat 0) = b1 := t3.2
  refine zr_lcmp C dL_law_2129 (by rw [e0]; exact zQ_R t3.1) (zQ_R t3.1) rfl ?_
  refine zr_if_eq C (tgt := 2135) dL_law_2130 (by decide) (zcmp_R _ _) rfl (fun z => hT2) (fun z => absurd (by rw [e0]; exact zcmp_self _) z)
theorem dL_law_2138 : decode cL_law 2138 = .ok (.aload_n 1, 1) := by decide +kernel
theorem dL_law_2139 : decode cL_law 2139 = .ok (.aload_n 0, 1) := by decide +kernel
theorem dL_law_2140 : decode cL_law 2140 = .ok (.iload 5, 2) := by decide +kernel
theorem dL_law_2142 : decode cL_law 2142 = .ok (.iconst 1, 1) := by decide +kernel
theorem dL_law_2143 : decode cL_law 2143 = .ok (.iadd, 1) := by decide +kernel
theorem dL_law_2144 : decode cL_law 2144 = .ok (.iaload, 1) := by decide +kernel
theorem dL_law_2145 : decode cL_law 2145 = .ok (.aload_n 0, 1) := by decide +kernel
theorem dL_law_2146 : decode cL_law 2146 = .ok (.iload 5, 2) := by decide +kernel
theorem dL_law_2148 : decode cL_law 2148 = .ok (.iconst 2, 1) := by decide +kernel
theorem dL_law_2149 : decode cL_law 2149 = .ok (.iadd, 1) := by decide +kernel
theorem dL_law_2150 : decode cL_law 2150 = .ok (.iaload, 1) := by decide +kernel
theorem dL_law_2151 : decode cL_law 2151 = .ok (.aload_n 3, 1) := by decide +kernel
set_option maxRecDepth 20000 in
theorem ggL_law_L_missingCell : GoodIn wsL_law wsL_missingCell := goodIn_ca (goodIn_ca (goodIn_rr [(38, 6), (6, 5), (11, 5), (38, 7), (38, 8), (38, 9), (0, 2), (38, 10), (11, 10), (11, 11), (0, 21), (33, 12), (33, 13), (33, 14), (33, 15), (6, 10), (6, 11), (25, 23), (26, 0), (23, 16), (26, 1), (26, 2), (37, 12), (37, 13), (37, 14), (37, 15), (1, 8), (31, 6), (31, 7), (31, 8), (31, 9), (1, 7), (31, 10), (31, 11), (31, 12), (0, 20), (31, 13), (2, 7), (9, 22), (9, 23), (5, 18), (5, 19), (5, 20), (0, 16), (5, 21), (4, 20), (10, 0), (21, 7), (16, 13), (16, 14), (1, 23), (16, 15), (2, 12), (2, 13), (16, 16), (7, 6), (7, 7), (7, 8), (2, 14), (31, 14), (31, 15), (31, 16), (27, 8), (26, 10), (26, 11), (26, 12), (31, 17), (31, 18), (27, 5), (27, 6), (27, 7), (31, 19), (4, 17), (4, 18), (4, 19), (1, 13), (15, 16), (15, 17), (15, 18), (15, 19), (2, 1), (2, 3), (2, 2), (2, 4), (15, 20), (15, 21), (15, 22), (15, 23), (14, 14), (14, 15), (14, 16), (14, 17), (16, 0), (16, 1), (16, 2), (16, 3), (16, 4), (16, 5), (16, 6), (16, 7), (16, 8), (16, 9), (16, 10), (16, 11), (14, 12), (14, 13), (16, 12), (17, 19), (17, 20), (17, 21), (17, 22), (17, 23), (42, 0), (42, 1), (42, 2), (42, 3), (42, 4), (42, 5), (42, 6), (42, 7), (45, 0), (45, 1), (45, 2), (45, 3), (45, 4), (45, 5), (45, 6), (45, 7), (45, 8), (45, 9), (45, 10), (45, 11), (45, 12), (45, 13), (48, 0), (48, 1), (48, 2), (44, 0), (44, 1)] (by decide +kernel) (by decide +kernel)) (goodIn_sub (fun _ h => List.mem_append_right _ h) (all_gw _))) (goodIn_sub (fun _ h => List.mem_append_left _ (List.mem_append_right _ h)) (all_gw _))
set_option maxRecDepth 20000 in
theorem gL_law_L_missingCell : GoodIn wsL_law (va_wsS RL 252 yL_missingCell wsL_missingCell) := goodIn_app (goodIn_rr [(38, 4), (38, 5), (4, 4)] (by decide +kernel) (by decide +kernel)) ggL_law_L_missingCell
theorem dL_law_2152 : decode cL_law 2152 = .ok (.invokestatic 252, 3) := by decide +kernel
theorem dL_law_2155 : decode cL_law 2155 = .ok (.istore 6, 2) := by decide +kernel
theorem dL_law_2157 : decode cL_law 2157 = .ok (.aload_n 2, 1) := by decide +kernel
theorem dL_law_2158 : decode cL_law 2158 = .ok (.aload_n 0, 1) := by decide +kernel
theorem dL_law_2159 : decode cL_law 2159 = .ok (.iload 5, 2) := by decide +kernel
theorem dL_law_2161 : decode cL_law 2161 = .ok (.iconst 1, 1) := by decide +kernel
theorem dL_law_2162 : decode cL_law 2162 = .ok (.iadd, 1) := by decide +kernel
theorem dL_law_2163 : decode cL_law 2163 = .ok (.iaload, 1) := by decide +kernel
theorem dL_law_2164 : decode cL_law 2164 = .ok (.aload_n 0, 1) := by decide +kernel
theorem dL_law_2165 : decode cL_law 2165 = .ok (.iload 5, 2) := by decide +kernel
theorem dL_law_2167 : decode cL_law 2167 = .ok (.iconst 2, 1) := by decide +kernel
theorem dL_law_2168 : decode cL_law 2168 = .ok (.iadd, 1) := by decide +kernel
theorem dL_law_2169 : decode cL_law 2169 = .ok (.iaload, 1) := by decide +kernel
set_option maxRecDepth 20000 in
theorem ggL_law_X7_missingCell : GoodIn wsL_law wsX7_missingCell := goodIn_rr [(38, 14), (5, 3), (34, 2), (34, 3), (34, 4), (0, 5), (34, 5), (3, 12), (5, 4), (5, 5), (5, 6), (37, 20), (37, 21), (37, 22), (37, 23), (30, 8), (30, 9), (30, 10), (10, 19), (10, 20), (10, 21), (10, 22), (8, 16), (8, 17), (8, 18), (38, 0), (38, 1), (38, 2), (38, 3), (3, 16), (32, 13), (32, 14), (32, 15), (32, 16), (30, 15), (30, 16), (30, 17), (13, 14), (13, 15), (13, 16), (17, 2), (17, 3), (17, 4), (17, 5), (10, 23), (11, 0), (11, 1), (15, 5), (15, 6), (15, 7), (5, 7), (5, 8), (5, 9), (17, 6), (17, 7), (17, 8), (15, 2), (15, 3), (15, 4), (17, 9), (17, 10), (17, 11), (18, 4), (18, 5), (18, 6), (18, 7), (18, 8), (18, 9), (18, 10), (18, 11), (18, 12), (18, 13), (43, 0), (43, 1), (43, 2), (43, 3), (43, 4), (43, 5), (43, 6), (43, 7), (43, 8), (43, 9), (43, 10), (43, 11), (43, 12), (43, 13), (43, 14), (43, 15), (43, 16), (43, 17), (43, 18)] (by decide +kernel) (by decide +kernel)
set_option maxRecDepth 20000 in
theorem gL_law_X7_missingCell : GoodIn wsL_law (wsV RL 254 RX7 yX7_missingCell wsX7_missingCell) := goodIn_app (goodIn_rr [(38, 11), (38, 12), (38, 13), (0, 5)] (by decide +kernel) (by decide +kernel)) ggL_law_X7_missingCell
theorem dL_law_2170 : decode cL_law 2170 = .ok (.invokevirtual 254, 3) := by decide +kernel
theorem dL_law_2173 : decode cL_law 2173 = .ok (.istore 7, 2) := by decide +kernel
theorem dL_law_2175 : decode cL_law 2175 = .ok (.aload_n 2, 1) := by decide +kernel
theorem dL_law_2176 : decode cL_law 2176 = .ok (.invokevirtual 136, 3) := by decide +kernel
theorem dL_law_2179 : decode cL_law 2179 = .ok (.iload 6, 2) := by decide +kernel
theorem dL_law_2181 : decode cL_law 2181 = .ok (.if_icmp .eq 5, 3) := by decide +kernel
theorem dL_law_2186 : decode cL_law 2186 = .ok (.iload 6, 2) := by decide +kernel
theorem dL_law_2203 : decode cL_law 2203 = .ok (.goto 173, 3) := by decide +kernel
theorem dL_law_2188 : decode cL_law 2188 = .ok (.ifCond .ne 15, 3) := by decide +kernel
theorem dL_law_2191 : decode cL_law 2191 = .ok (.aload_n 3, 1) := by decide +kernel
theorem dL_law_2192 : decode cL_law 2192 = .ok (.iconst 0, 1) := by decide +kernel
theorem dL_law_2193 : decode cL_law 2193 = .ok (.laload, 1) := by decide +kernel
theorem dL_law_2194 : decode cL_law 2194 = .ok (.iload 7, 2) := by decide +kernel
theorem dL_law_2196 : decode cL_law 2196 = .ok (.i2l, 1) := by decide +kernel
theorem dL_law_2197 : decode cL_law 2197 = .ok (.lcmp, 1) := by decide +kernel
theorem dL_law_2198 : decode cL_law 2198 = .ok (.ifCond .eq 5, 3) := by decide +kernel
set_option maxRecDepth 100000 in
set_option maxHeartbeats 4000000 in
theorem law_35 {p : Program} {l : Launch} {e : Env} {s : State} {m : MethodId} {args : Array Value} {below : List Frame} {meth : Method} {c : Code} {a : Nat → Nat} {cy : Nat → ClassId} {D : va_G} {tV : Nat} {sa : Nat → Nat} {Q : State → Prop} {cells slots : Nat} {σ : Sto} {b Ln : Nat} {xs : Nat → Int32} {i : Nat} (hl : l.stackTraces = false) (C : zC p l s m args meth c cL_law 9 wsL_law RL a cy D tV sa) (hX : va_X b Ln xs s s.heap) (hb : b < s.heap.size) (hbA : ¬ zA a s.heap.size b) (hLn : Ln ≤ 2048) (hc1 : cells + 4 ≤ room_1.cells) (hc2 : slots + 24 ≤ room_1.slots) (hLI : LI σ) (hi : i + 4 ≤ Ln) (hK : ∀ σ', LI σ' → zX p l e room_1 s m args below meth c 9 a cy D Q (cells + 4) (slots + 24) σ' 2376 [(5, .int (zI (i : Int))), (4, .ref (a 298)), (3, .ref (a 297)), (2, .ref (a 283)), (1, .ref (a 0)), (0, .ref b)] []) : zX p l e room_1 s m args below meth c 9 a cy D Q cells slots σ 2138 [(5, .int (zI (i : Int))), (4, .ref (a 298)), (3, .ref (a 297)), (2, .ref (a 283)), (1, .ref (a 0)), (0, .ref b)] [] := by
  have hq := p_missingCell (K := LI) hLI (zR_to (xs (Int.toNat ((i : Int) + 1)))) (zR_to (xs (Int.toNat ((i : Int) + 2)))) (fun _ h => h)
  refine zr_aload_n C dL_law_2138 rfl (k := 4) rfl rfl ?_
  refine zr_aload_n C dL_law_2139 rfl (k := 5) rfl rfl ?_
  refine zr_iload C dL_law_2140 (k := 0) rfl rfl ?_
  refine zr_iconst C dL_law_2142 rfl ?_
  refine zr_iadd C dL_law_2143 rfl ?_
  refine zl_sld C hX hb hbA (by omega) (by omega) hLn dL_law_2144 rfl ?_
  refine zr_aload_n C dL_law_2145 rfl (k := 5) rfl rfl ?_
  refine zr_iload C dL_law_2146 (k := 0) rfl rfl ?_
  refine zr_iconst C dL_law_2148 rfl ?_
  refine zr_iadd C dL_law_2149 rfl ?_
  refine zl_sld C hX hb hbA (by omega) (by omega) hLn dL_law_2150 rfl ?_
  refine zr_aload_n C dL_law_2151 rfl (k := 2) rfl rfl ?_
  refine zr_xcall (zrunSX (hh := [(0, 10, 13, 21), (0, 10, 17, 35)]) C (st := []) (mL_missingCell (X := fun _ _ => False) hl zk0 zk297 hq) (vx_cwSW 4 C.2.2.2.2.1 gL_law_L_missingCell rfl rfl rfl (by decide +kernel) ⟨(Nat.le_of_ble_eq_true rfl), (Nat.le_of_ble_eq_true rfl)⟩) rfl rfl (Nat.le_of_ble_eq_true rfl) dL_law_2152 ⟨by omega, by omega⟩) rfl (fun _ _ _ _ _ _ _ _ hx _ _ _ _ _ _ _ => hx.elim) (fun v s1 hv => ?_)
  obtain ⟨r1, rfl, hq⟩ := hv
  refine zr_istore C (L' := [(6, .int (zI r1)), (5, .int (zI (i : Int))), (4, .ref (a 298)), (3, .ref (a 297)), (2, .ref (a 283)), (1, .ref (a 0)), (0, .ref b)]) dL_law_2155 (by decide) rfl rfl ?_
  refine zr_aload_n C dL_law_2157 rfl (k := 4) rfl rfl ?_
  refine zr_aload_n C dL_law_2158 rfl (k := 6) rfl rfl ?_
  refine zr_iload C dL_law_2159 (k := 1) rfl rfl ?_
  refine zr_iconst C dL_law_2161 rfl ?_
  refine zr_iadd C dL_law_2162 rfl ?_
  refine zl_sld C hX hb hbA (by omega) (by omega) hLn dL_law_2163 rfl ?_
  refine zr_aload_n C dL_law_2164 rfl (k := 6) rfl rfl ?_
  refine zr_iload C dL_law_2165 (k := 1) rfl rfl ?_
  refine zr_iconst C dL_law_2167 rfl ?_
  refine zr_iadd C dL_law_2168 rfl ?_
  refine zl_sld C hX hb hbA (by omega) (by omega) hLn dL_law_2169 rfl ?_
  refine zr_calli (zrunV C (st := []) (mX7_missingCell zk283 hq) (cwV 2 C.2.2.2.2.1 gL_law_X7_missingCell rfl rfl rfl (by decide +kernel) ⟨(Nat.le_of_ble_eq_true rfl), (Nat.le_of_ble_eq_true rfl)⟩) (zE_6 zk283) (zk_lt zk283 (by decide)) (T := TX7) (N := 19) rfl rfl rfl (Nat.le_of_ble_eq_true rfl) dL_law_2170 ⟨by omega, by omega⟩) rfl (fun b1 s2 hq => ?_)
  refine zr_istore C (L' := [(7, .int (zI b1)), (6, .int (zI r1)), (5, .int (zI (i : Int))), (4, .ref (a 298)), (3, .ref (a 297)), (2, .ref (a 283)), (1, .ref (a 0)), (0, .ref b)]) dL_law_2173 (by decide) rfl rfl ?_
  refine zr_aload_n C dL_law_2175 rfl (k := 5) rfl rfl ?_
  refine zr_calli (zrunV C (st := []) (mX7_thrown zk283 (P := fun y t => y = s2 283 7 ∧ t = s2) ⟨rfl, rfl⟩) (cwV 0 C.2.2.2.2.1 gL_law_X7_thrown rfl rfl rfl (by decide +kernel) ⟨(Nat.le_of_ble_eq_true rfl), (Nat.le_of_ble_eq_true rfl)⟩) (zE_6 zk283) (zk_lt zk283 (by decide)) (T := TX7) (N := 19) rfl rfl rfl (Nat.le_of_ble_eq_true rfl) dL_law_2176 ⟨by omega, by omega⟩) rfl (fun y s3 hy => ?_)
  obtain ⟨rfl, rfl⟩ := hy
  obtain ⟨t1, t2, t3, t4⟩ := hq
  refine zr_iload C dL_law_2179 (k := 1) rfl rfl ?_
  have hr1 : zR r1 := zR_s (by omega) (by omega)
  refine zr_icmp_eq C (tgt := 2186) dL_law_2181 (by decide) (by rw [t1]; exact hr1) hr1 rfl (fun z => ?_) (fun z => absurd t1 z)
  refine zr_iload C dL_law_2186 (k := 1) rfl rfl ?_
  have hT2 : zX p l e room_1 s m args below meth c 9 a cy D Q (cells + 2) (slots + 12) s3 2203 [(7, .int (zI b1)), (6, .int (zI r1)), (5, .int (zI (i : Int))), (4, .ref (a 298)), (3, .ref (a 297)), (2, .ref (a 283)), (1, .ref (a 0)), (0, .ref b)] [] := by
    refine zr_goto C (tgt := 2376) dL_law_2203 (by decide) ?_
    exact zr_widen (by omega) (by omega) (zr_sub C [2, 3, 4, 5, 6, 7] rfl (hK _ t4))
  refine zr_if_ne C (tgt := 2203) dL_law_2188 (by decide) hr1 rfl (fun z => hT2) (fun z => ?_)
  have t3 := t3 z
  refine zr_aload_n C dL_law_2191 rfl (k := 4) rfl rfl ?_
  refine zr_iconst C dL_law_2192 rfl ?_
  refine zr_lald C zk297 (by decide) (by rw [zn297.1]; decide) dL_law_2193 rfl ?_
  refine zr_iload C dL_law_2194 (k := 0) rfl rfl ?_
  refine zr_i2l C dL_law_2196 t3.1 rfl ?_
  have e0 : s3 297 (Int.toNat 0) = b1 := t3.2
  refine zr_lcmp C dL_law_2197 (by rw [e0]; exact zQ_R t3.1) (zQ_R t3.1) rfl ?_
  refine zr_if_eq C (tgt := 2203) dL_law_2198 (by decide) (zcmp_R _ _) rfl (fun z => hT2) (fun z => absurd (by rw [e0]; exact zcmp_self _) z)
theorem dL_law_2206 : decode cL_law 2206 = .ok (.aload_n 1, 1) := by decide +kernel
set_option maxRecDepth 20000 in
theorem ggL_law_X6_uncovered : GoodIn wsL_law wsX6_uncovered := goodIn_rr [(38, 18), (0, 21), (30, 22), (30, 23), (31, 0), (0, 2), (31, 1), (31, 2), (31, 3), (31, 4), (31, 5), (1, 8), (25, 23), (26, 0), (23, 16), (26, 1), (26, 2), (31, 6), (31, 7), (31, 8), (31, 9), (1, 7), (31, 10), (31, 11), (31, 12), (0, 20), (31, 13), (2, 7), (9, 22), (9, 23), (5, 18), (5, 19), (5, 20), (0, 16), (5, 21), (4, 20), (10, 0), (21, 7), (16, 13), (16, 14), (1, 23), (16, 15), (2, 12), (2, 13), (16, 16), (7, 6), (7, 7), (7, 8), (2, 14), (31, 14), (31, 15), (31, 16), (27, 8), (26, 10), (26, 11), (26, 12), (31, 17), (31, 18), (27, 5), (27, 6), (27, 7), (31, 19), (4, 17), (4, 18), (4, 19), (1, 13), (15, 16), (15, 17), (15, 18), (15, 19), (2, 1), (2, 3), (2, 2), (2, 4), (15, 20), (15, 21), (15, 22), (15, 23), (14, 14), (14, 15), (14, 16), (14, 17), (16, 0), (16, 1), (16, 2), (16, 3), (16, 4), (16, 5), (16, 6), (16, 7), (16, 8), (16, 9), (16, 10), (16, 11), (14, 12), (14, 13), (16, 12), (17, 19), (17, 20), (17, 21), (17, 22), (17, 23), (32, 0), (23, 8), (23, 9), (23, 10), (23, 11), (23, 12), (23, 13), (42, 0), (42, 1), (42, 2), (42, 3), (42, 4), (42, 5), (42, 6), (42, 7), (45, 0), (45, 1), (45, 2), (45, 3), (45, 4), (45, 5), (45, 6), (45, 7), (45, 8), (45, 9), (45, 10), (45, 11), (45, 12), (45, 13), (48, 0), (48, 1), (48, 2), (44, 0), (44, 1)] (by decide +kernel) (by decide +kernel)
set_option maxRecDepth 20000 in
theorem gL_law_X6_uncovered : GoodIn wsL_law (wsV RL 255 RX6 yX6_uncovered wsX6_uncovered) := goodIn_app (goodIn_rr [(38, 15), (38, 16), (38, 17), (0, 2)] (by decide +kernel) (by decide +kernel)) ggL_law_X6_uncovered
theorem dL_law_2207 : decode cL_law 2207 = .ok (.invokevirtual 255, 3) := by decide +kernel
theorem dL_law_2210 : decode cL_law 2210 = .ok (.aload_n 2, 1) := by decide +kernel
set_option maxRecDepth 20000 in
theorem ggL_law_X7_uncovered : GoodIn wsL_law wsX7_uncovered := goodIn_rr [(38, 22), (5, 3), (3, 12), (32, 5), (32, 6), (32, 7), (0, 5), (32, 8), (32, 9), (32, 10), (32, 11), (32, 12), (3, 16), (30, 8), (30, 9), (30, 10), (10, 19), (10, 20), (10, 21), (10, 22), (8, 16), (8, 17), (8, 18), (32, 13), (32, 14), (32, 15), (32, 16), (30, 15), (30, 16), (30, 17), (13, 14), (13, 15), (13, 16), (17, 2), (17, 3), (17, 4), (17, 5), (10, 23), (11, 0), (11, 1), (15, 5), (15, 6), (15, 7), (5, 7), (5, 8), (5, 9), (17, 6), (17, 7), (17, 8), (15, 2), (15, 3), (15, 4), (17, 9), (17, 10), (17, 11), (18, 8), (18, 9), (18, 10), (18, 11), (18, 12), (18, 13), (43, 0), (43, 1), (43, 2), (43, 3), (43, 4), (43, 5), (43, 6), (43, 7), (43, 8), (43, 9), (43, 10), (43, 11), (43, 12), (43, 13), (43, 14), (43, 15), (43, 16), (43, 17), (43, 18)] (by decide +kernel) (by decide +kernel)
set_option maxRecDepth 20000 in
theorem gL_law_X7_uncovered : GoodIn wsL_law (wsV RL 258 RX7 yX7_uncovered wsX7_uncovered) := goodIn_app (goodIn_rr [(38, 19), (38, 20), (38, 21), (0, 5)] (by decide +kernel) (by decide +kernel)) ggL_law_X7_uncovered
theorem dL_law_2211 : decode cL_law 2211 = .ok (.invokevirtual 258, 3) := by decide +kernel
theorem dL_law_2214 : decode cL_law 2214 = .ok (.if_icmp .eq 162, 3) := by decide +kernel
set_option maxRecDepth 100000 in
set_option maxHeartbeats 4000000 in
theorem law_36 {p : Program} {l : Launch} {e : Env} {s : State} {m : MethodId} {args : Array Value} {below : List Frame} {meth : Method} {c : Code} {a : Nat → Nat} {cy : Nat → ClassId} {D : va_G} {tV : Nat} {sa : Nat → Nat} {Q : State → Prop} {cells slots : Nat} {σ : Sto} {b Ln : Nat} {xs : Nat → Int32} {i : Nat} (hl : l.stackTraces = false) (C : zC p l s m args meth c cL_law 9 wsL_law RL a cy D tV sa) (hX : va_X b Ln xs s s.heap) (hb : b < s.heap.size) (hbA : ¬ zA a s.heap.size b) (hLn : Ln ≤ 2048) (hc1 : cells + 4 ≤ room_1.cells) (hc2 : slots + 24 ≤ room_1.slots) (hLI : LI σ) (hi : i + 4 ≤ Ln) (hK : ∀ σ', LI σ' → zX p l e room_1 s m args below meth c 9 a cy D Q (cells + 4) (slots + 24) σ' 2376 [(5, .int (zI (i : Int))), (4, .ref (a 298)), (3, .ref (a 297)), (2, .ref (a 283)), (1, .ref (a 0)), (0, .ref b)] []) : zX p l e room_1 s m args below meth c 9 a cy D Q cells slots σ 2206 [(5, .int (zI (i : Int))), (4, .ref (a 298)), (3, .ref (a 297)), (2, .ref (a 283)), (1, .ref (a 0)), (0, .ref b)] [] := by
  have hq := p_uncovered (K := LI) hLI (fun _ h => h)
  refine zr_aload_n C dL_law_2206 rfl (k := 4) rfl rfl ?_
  refine zr_calli (zrunV C (st := []) (mX6_uncovered zk0 hq) (cwV 0 C.2.2.2.2.1 gL_law_X6_uncovered rfl rfl rfl (by decide +kernel) ⟨(Nat.le_of_ble_eq_true rfl), (Nat.le_of_ble_eq_true rfl)⟩) (zE_5 zk0) (zk_lt zk0 (by decide)) (T := TX6) (N := 8) rfl rfl rfl (Nat.le_of_ble_eq_true rfl) dL_law_2207 ⟨by omega, by omega⟩) rfl (fun r1 s1 hq => ?_)
  refine zr_aload_n C dL_law_2210 rfl (k := 3) rfl rfl ?_
  refine zr_calli (zrunV C (st := [.int (zI r1)]) (mX7_uncovered zk283 hq) (cwV 0 C.2.2.2.2.1 gL_law_X7_uncovered rfl rfl rfl (by decide +kernel) ⟨(Nat.le_of_ble_eq_true rfl), (Nat.le_of_ble_eq_true rfl)⟩) (zE_6 zk283) (zk_lt zk283 (by decide)) (T := TX7) (N := 19) rfl rfl rfl (Nat.le_of_ble_eq_true rfl) dL_law_2211 ⟨by omega, by omega⟩) rfl (fun b1 s2 hq => ?_)
  obtain ⟨t1, t2, t4⟩ := hq
  refine zr_icmp_eq C (tgt := 2376) dL_law_2214 (by decide) (by rw [t1]; exact t2) t2 rfl (fun z => ?_) (fun z => absurd t1 z)
  exact zr_widen (by omega) (by omega) (zr_sub C [0, 1, 2, 3, 4, 5] rfl (hK _ t4))
theorem dL_law_2219 : decode cL_law 2219 = .ok (.aload_n 1, 1) := by decide +kernel
theorem dL_law_2220 : decode cL_law 2220 = .ok (.aload_n 0, 1) := by decide +kernel
theorem dL_law_2221 : decode cL_law 2221 = .ok (.iload 5, 2) := by decide +kernel
theorem dL_law_2223 : decode cL_law 2223 = .ok (.iconst 1, 1) := by decide +kernel
theorem dL_law_2224 : decode cL_law 2224 = .ok (.iadd, 1) := by decide +kernel
theorem dL_law_2225 : decode cL_law 2225 = .ok (.iaload, 1) := by decide +kernel
theorem dL_law_2226 : decode cL_law 2226 = .ok (.aload_n 3, 1) := by decide +kernel
set_option maxRecDepth 20000 in
theorem ggL_law_L_lexemesOf : GoodIn wsL_law wsL_lexemesOf := goodIn_ca (goodIn_rr [(39, 1), (6, 5), (39, 2), (39, 3), (39, 4), (0, 2), (39, 5), (0, 21), (18, 21), (18, 22), (18, 23), (19, 0), (6, 10), (6, 11), (31, 2), (31, 3), (31, 4), (31, 5), (1, 8), (25, 23), (26, 0), (23, 16), (26, 1), (26, 2), (31, 6), (31, 7), (31, 8), (31, 9), (1, 7), (31, 10), (31, 11), (31, 12), (0, 20), (31, 13), (2, 7), (9, 22), (9, 23), (5, 18), (5, 19), (5, 20), (0, 16), (5, 21), (4, 20), (10, 0), (21, 7), (16, 13), (16, 14), (1, 23), (16, 15), (2, 12), (2, 13), (16, 16), (7, 6), (7, 7), (7, 8), (2, 14), (31, 14), (31, 15), (31, 16), (27, 8), (26, 10), (26, 11), (26, 12), (31, 17), (31, 18), (27, 5), (27, 6), (27, 7), (31, 19), (4, 17), (4, 18), (4, 19), (1, 13), (15, 16), (15, 17), (15, 18), (15, 19), (2, 1), (2, 3), (2, 2), (2, 4), (15, 20), (15, 21), (15, 22), (15, 23), (14, 14), (14, 15), (14, 16), (14, 17), (16, 0), (16, 1), (16, 2), (16, 3), (16, 4), (16, 5), (16, 6), (16, 7), (16, 8), (16, 9), (16, 10), (16, 11), (14, 12), (14, 13), (16, 12), (17, 19), (17, 20), (17, 21), (17, 22), (17, 23), (27, 20), (27, 21), (27, 22), (42, 0), (42, 1), (42, 2), (42, 3), (42, 4), (42, 5), (42, 6), (42, 7), (45, 0), (45, 1), (45, 2), (45, 3), (45, 4), (45, 5), (45, 6), (45, 7), (45, 8), (45, 9), (45, 10), (45, 11), (45, 12), (45, 13), (48, 0), (48, 1), (48, 2), (44, 0), (44, 1)] (by decide +kernel) (by decide +kernel)) (goodIn_sub (fun _ h => List.mem_append_left _ (List.mem_append_right _ h)) (all_gw _))
set_option maxRecDepth 20000 in
theorem gL_law_L_lexemesOf : GoodIn wsL_law (va_wsS RL 259 yL_lexemesOf wsL_lexemesOf) := goodIn_app (goodIn_rr [(38, 23), (39, 0), (4, 4)] (by decide +kernel) (by decide +kernel)) ggL_law_L_lexemesOf
theorem dL_law_2227 : decode cL_law 2227 = .ok (.invokestatic 259, 3) := by decide +kernel
theorem dL_law_2230 : decode cL_law 2230 = .ok (.istore 6, 2) := by decide +kernel
theorem dL_law_2232 : decode cL_law 2232 = .ok (.aload_n 2, 1) := by decide +kernel
theorem dL_law_2233 : decode cL_law 2233 = .ok (.aload_n 0, 1) := by decide +kernel
theorem dL_law_2234 : decode cL_law 2234 = .ok (.iload 5, 2) := by decide +kernel
theorem dL_law_2236 : decode cL_law 2236 = .ok (.iconst 1, 1) := by decide +kernel
theorem dL_law_2237 : decode cL_law 2237 = .ok (.iadd, 1) := by decide +kernel
theorem dL_law_2238 : decode cL_law 2238 = .ok (.iaload, 1) := by decide +kernel
set_option maxRecDepth 20000 in
theorem ggL_law_X7_lexemesOf : GoodIn wsL_law wsX7_lexemesOf := goodIn_rr [(39, 9), (5, 3), (19, 9), (19, 10), (19, 11), (0, 5), (19, 12), (3, 12), (5, 4), (5, 5), (5, 6), (32, 5), (32, 6), (32, 7), (32, 8), (32, 9), (32, 10), (32, 11), (32, 12), (3, 16), (30, 8), (30, 9), (30, 10), (10, 19), (10, 20), (10, 21), (10, 22), (8, 16), (8, 17), (8, 18), (32, 13), (32, 14), (32, 15), (32, 16), (30, 15), (30, 16), (30, 17), (13, 14), (13, 15), (13, 16), (17, 2), (17, 3), (17, 4), (17, 5), (10, 23), (11, 0), (11, 1), (15, 5), (15, 6), (15, 7), (5, 7), (5, 8), (5, 9), (17, 6), (17, 7), (17, 8), (15, 2), (15, 3), (15, 4), (17, 9), (17, 10), (17, 11), (18, 8), (18, 9), (18, 10), (18, 11), (18, 12), (18, 13), (43, 0), (43, 1), (43, 2), (43, 3), (43, 4), (43, 5), (43, 6), (43, 7), (43, 8), (43, 9), (43, 10), (43, 11), (43, 12), (43, 13), (43, 14), (43, 15), (43, 16), (43, 17), (43, 18)] (by decide +kernel) (by decide +kernel)
set_option maxRecDepth 20000 in
theorem gL_law_X7_lexemesOf : GoodIn wsL_law (wsV RL 261 RX7 yX7_lexemesOf wsX7_lexemesOf) := goodIn_app (goodIn_rr [(39, 6), (39, 7), (39, 8), (0, 5)] (by decide +kernel) (by decide +kernel)) ggL_law_X7_lexemesOf
theorem dL_law_2239 : decode cL_law 2239 = .ok (.invokevirtual 261, 3) := by decide +kernel
theorem dL_law_2242 : decode cL_law 2242 = .ok (.istore 7, 2) := by decide +kernel
theorem dL_law_2244 : decode cL_law 2244 = .ok (.aload_n 2, 1) := by decide +kernel
theorem dL_law_2245 : decode cL_law 2245 = .ok (.invokevirtual 136, 3) := by decide +kernel
theorem dL_law_2248 : decode cL_law 2248 = .ok (.iload 6, 2) := by decide +kernel
theorem dL_law_2250 : decode cL_law 2250 = .ok (.if_icmp .eq 5, 3) := by decide +kernel
theorem dL_law_2255 : decode cL_law 2255 = .ok (.iload 6, 2) := by decide +kernel
theorem dL_law_2272 : decode cL_law 2272 = .ok (.goto 104, 3) := by decide +kernel
theorem dL_law_2257 : decode cL_law 2257 = .ok (.ifCond .ne 15, 3) := by decide +kernel
theorem dL_law_2260 : decode cL_law 2260 = .ok (.aload_n 3, 1) := by decide +kernel
theorem dL_law_2261 : decode cL_law 2261 = .ok (.iconst 0, 1) := by decide +kernel
theorem dL_law_2262 : decode cL_law 2262 = .ok (.laload, 1) := by decide +kernel
theorem dL_law_2263 : decode cL_law 2263 = .ok (.iload 7, 2) := by decide +kernel
theorem dL_law_2265 : decode cL_law 2265 = .ok (.i2l, 1) := by decide +kernel
theorem dL_law_2266 : decode cL_law 2266 = .ok (.lcmp, 1) := by decide +kernel
theorem dL_law_2267 : decode cL_law 2267 = .ok (.ifCond .eq 5, 3) := by decide +kernel
set_option maxRecDepth 100000 in
set_option maxHeartbeats 4000000 in
theorem law_37 {p : Program} {l : Launch} {e : Env} {s : State} {m : MethodId} {args : Array Value} {below : List Frame} {meth : Method} {c : Code} {a : Nat → Nat} {cy : Nat → ClassId} {D : va_G} {tV : Nat} {sa : Nat → Nat} {Q : State → Prop} {cells slots : Nat} {σ : Sto} {b Ln : Nat} {xs : Nat → Int32} {i : Nat} (hl : l.stackTraces = false) (C : zC p l s m args meth c cL_law 9 wsL_law RL a cy D tV sa) (hX : va_X b Ln xs s s.heap) (hb : b < s.heap.size) (hbA : ¬ zA a s.heap.size b) (hLn : Ln ≤ 2048) (hc1 : cells + 4 ≤ room_1.cells) (hc2 : slots + 24 ≤ room_1.slots) (hLI : LI σ) (hi : i + 4 ≤ Ln) (hK : ∀ σ', LI σ' → zX p l e room_1 s m args below meth c 9 a cy D Q (cells + 4) (slots + 24) σ' 2376 [(5, .int (zI (i : Int))), (4, .ref (a 298)), (3, .ref (a 297)), (2, .ref (a 283)), (1, .ref (a 0)), (0, .ref b)] []) : zX p l e room_1 s m args below meth c 9 a cy D Q cells slots σ 2219 [(5, .int (zI (i : Int))), (4, .ref (a 298)), (3, .ref (a 297)), (2, .ref (a 283)), (1, .ref (a 0)), (0, .ref b)] [] := by
  have hq := p_lexemesOf (K := LI) hLI (zR_to (xs (Int.toNat ((i : Int) + 1)))) (fun _ h => h)
  refine zr_aload_n C dL_law_2219 rfl (k := 4) rfl rfl ?_
  refine zr_aload_n C dL_law_2220 rfl (k := 5) rfl rfl ?_
  refine zr_iload C dL_law_2221 (k := 0) rfl rfl ?_
  refine zr_iconst C dL_law_2223 rfl ?_
  refine zr_iadd C dL_law_2224 rfl ?_
  refine zl_sld C hX hb hbA (by omega) (by omega) hLn dL_law_2225 rfl ?_
  refine zr_aload_n C dL_law_2226 rfl (k := 2) rfl rfl ?_
  refine zr_xcall (zrunSX (hh := [(0, 9, 12, 21)]) C (st := []) (mL_lexemesOf (X := fun _ _ => False) hl zk0 zk297 hq) (vx_cwSW 3 C.2.2.2.2.1 gL_law_L_lexemesOf rfl rfl rfl (by decide +kernel) ⟨(Nat.le_of_ble_eq_true rfl), (Nat.le_of_ble_eq_true rfl)⟩) rfl rfl (Nat.le_of_ble_eq_true rfl) dL_law_2227 ⟨by omega, by omega⟩) rfl (fun _ _ _ _ _ _ _ _ hx _ _ _ _ _ _ _ => hx.elim) (fun v s1 hv => ?_)
  obtain ⟨r1, rfl, hq⟩ := hv
  refine zr_istore C (L' := [(6, .int (zI r1)), (5, .int (zI (i : Int))), (4, .ref (a 298)), (3, .ref (a 297)), (2, .ref (a 283)), (1, .ref (a 0)), (0, .ref b)]) dL_law_2230 (by decide) rfl rfl ?_
  refine zr_aload_n C dL_law_2232 rfl (k := 4) rfl rfl ?_
  refine zr_aload_n C dL_law_2233 rfl (k := 6) rfl rfl ?_
  refine zr_iload C dL_law_2234 (k := 1) rfl rfl ?_
  refine zr_iconst C dL_law_2236 rfl ?_
  refine zr_iadd C dL_law_2237 rfl ?_
  refine zl_sld C hX hb hbA (by omega) (by omega) hLn dL_law_2238 rfl ?_
  refine zr_calli (zrunV C (st := []) (mX7_lexemesOf zk283 hq) (cwV 1 C.2.2.2.2.1 gL_law_X7_lexemesOf rfl rfl rfl (by decide +kernel) ⟨(Nat.le_of_ble_eq_true rfl), (Nat.le_of_ble_eq_true rfl)⟩) (zE_6 zk283) (zk_lt zk283 (by decide)) (T := TX7) (N := 19) rfl rfl rfl (Nat.le_of_ble_eq_true rfl) dL_law_2239 ⟨by omega, by omega⟩) rfl (fun b1 s2 hq => ?_)
  refine zr_istore C (L' := [(7, .int (zI b1)), (6, .int (zI r1)), (5, .int (zI (i : Int))), (4, .ref (a 298)), (3, .ref (a 297)), (2, .ref (a 283)), (1, .ref (a 0)), (0, .ref b)]) dL_law_2242 (by decide) rfl rfl ?_
  refine zr_aload_n C dL_law_2244 rfl (k := 5) rfl rfl ?_
  refine zr_calli (zrunV C (st := []) (mX7_thrown zk283 (P := fun y t => y = s2 283 7 ∧ t = s2) ⟨rfl, rfl⟩) (cwV 0 C.2.2.2.2.1 gL_law_X7_thrown rfl rfl rfl (by decide +kernel) ⟨(Nat.le_of_ble_eq_true rfl), (Nat.le_of_ble_eq_true rfl)⟩) (zE_6 zk283) (zk_lt zk283 (by decide)) (T := TX7) (N := 19) rfl rfl rfl (Nat.le_of_ble_eq_true rfl) dL_law_2245 ⟨by omega, by omega⟩) rfl (fun y s3 hy => ?_)
  obtain ⟨rfl, rfl⟩ := hy
  obtain ⟨t1, t2, t3, t4⟩ := hq
  refine zr_iload C dL_law_2248 (k := 1) rfl rfl ?_
  have hr1 : zR r1 := zR_s (by omega) (by omega)
  refine zr_icmp_eq C (tgt := 2255) dL_law_2250 (by decide) (by rw [t1]; exact hr1) hr1 rfl (fun z => ?_) (fun z => absurd t1 z)
  refine zr_iload C dL_law_2255 (k := 1) rfl rfl ?_
  have hT2 : zX p l e room_1 s m args below meth c 9 a cy D Q (cells + 1) (slots + 6) s3 2272 [(7, .int (zI b1)), (6, .int (zI r1)), (5, .int (zI (i : Int))), (4, .ref (a 298)), (3, .ref (a 297)), (2, .ref (a 283)), (1, .ref (a 0)), (0, .ref b)] [] := by
    refine zr_goto C (tgt := 2376) dL_law_2272 (by decide) ?_
    exact zr_widen (by omega) (by omega) (zr_sub C [2, 3, 4, 5, 6, 7] rfl (hK _ t4))
  refine zr_if_ne C (tgt := 2272) dL_law_2257 (by decide) hr1 rfl (fun z => hT2) (fun z => ?_)
  have t3 := t3 z
  refine zr_aload_n C dL_law_2260 rfl (k := 4) rfl rfl ?_
  refine zr_iconst C dL_law_2261 rfl ?_
  refine zr_lald C zk297 (by decide) (by rw [zn297.1]; decide) dL_law_2262 rfl ?_
  refine zr_iload C dL_law_2263 (k := 0) rfl rfl ?_
  refine zr_i2l C dL_law_2265 t3.1 rfl ?_
  have e0 : s3 297 (Int.toNat 0) = b1 := t3.2
  refine zr_lcmp C dL_law_2266 (by rw [e0]; exact zQ_R t3.1) (zQ_R t3.1) rfl ?_
  refine zr_if_eq C (tgt := 2272) dL_law_2267 (by decide) (zcmp_R _ _) rfl (fun z => hT2) (fun z => absurd (by rw [e0]; exact zcmp_self _) z)
theorem dL_law_2275 : decode cL_law 2275 = .ok (.aload_n 1, 1) := by decide +kernel
theorem dL_law_2276 : decode cL_law 2276 = .ok (.aload_n 3, 1) := by decide +kernel
set_option maxRecDepth 20000 in
theorem ggL_law_L_undo : GoodIn wsL_law wsL_undo := goodIn_ca (goodIn_rr [(39, 12), (11, 5), (39, 13), (39, 14), (39, 15), (0, 2), (39, 16), (11, 10), (11, 11), (1, 2), (0, 21), (1, 6), (39, 17), (39, 18), (39, 19), (1, 1), (39, 20), (7, 3), (7, 4), (2, 20), (7, 9), (7, 10), (7, 11), (0, 20), (7, 12), (7, 13), (1, 18), (7, 14), (7, 15), (7, 16), (7, 17), (1, 19), (1, 20), (2, 0), (2, 1), (2, 2), (2, 3), (2, 4), (7, 18), (2, 5), (7, 19), (2, 6), (2, 7), (7, 20), (7, 21), (7, 22), (1, 23), (7, 23), (2, 13), (8, 0), (2, 14), (42, 0), (42, 1), (42, 2), (42, 3), (42, 4), (42, 5), (42, 6), (42, 7), (46, 0), (46, 1), (46, 2), (47, 0), (47, 1), (47, 2), (47, 3), (47, 4), (47, 5), (47, 6), (45, 0), (45, 1), (45, 2), (45, 3), (45, 4), (45, 5), (45, 6), (45, 7), (45, 8), (45, 9), (45, 10), (45, 11), (45, 12), (45, 13), (48, 0), (48, 1), (48, 2)] (by decide +kernel) (by decide +kernel)) (goodIn_sub (fun _ h => List.mem_append_right _ h) (all_gw _))
set_option maxRecDepth 20000 in
theorem gL_law_L_undo : GoodIn wsL_law (va_wsS RL 262 yL_undo wsL_undo) := goodIn_app (goodIn_rr [(39, 10), (39, 11), (4, 4)] (by decide +kernel) (by decide +kernel)) ggL_law_L_undo
theorem dL_law_2277 : decode cL_law 2277 = .ok (.invokestatic 262, 3) := by decide +kernel
theorem dL_law_2280 : decode cL_law 2280 = .ok (.istore 6, 2) := by decide +kernel
theorem dL_law_2282 : decode cL_law 2282 = .ok (.aload_n 2, 1) := by decide +kernel
set_option maxRecDepth 20000 in
theorem ggL_law_X7_undo : GoodIn wsL_law wsX7_undo := goodIn_rr [(40, 0), (8, 13), (5, 3), (3, 13), (3, 12), (8, 14), (7, 15), (7, 16), (7, 17), (8, 15), (43, 0), (43, 1), (43, 2), (43, 3), (43, 4), (43, 5), (43, 6), (43, 7), (43, 8), (43, 9), (43, 10), (43, 11), (43, 12), (43, 13), (43, 14), (43, 15), (43, 16), (43, 17), (43, 18)] (by decide +kernel) (by decide +kernel)
set_option maxRecDepth 20000 in
theorem gL_law_X7_undo : GoodIn wsL_law (wsV RL 264 RX7 yX7_undo wsX7_undo) := goodIn_app (goodIn_rr [(39, 21), (39, 22), (39, 23), (0, 5)] (by decide +kernel) (by decide +kernel)) ggL_law_X7_undo
theorem dL_law_2283 : decode cL_law 2283 = .ok (.invokevirtual 264, 3) := by decide +kernel
theorem dL_law_2286 : decode cL_law 2286 = .ok (.istore 7, 2) := by decide +kernel
theorem dL_law_2288 : decode cL_law 2288 = .ok (.aload_n 2, 1) := by decide +kernel
theorem dL_law_2289 : decode cL_law 2289 = .ok (.invokevirtual 136, 3) := by decide +kernel
theorem dL_law_2292 : decode cL_law 2292 = .ok (.iload 6, 2) := by decide +kernel
theorem dL_law_2294 : decode cL_law 2294 = .ok (.if_icmp .eq 5, 3) := by decide +kernel
theorem dL_law_2299 : decode cL_law 2299 = .ok (.iload 6, 2) := by decide +kernel
theorem dL_law_2316 : decode cL_law 2316 = .ok (.goto 60, 3) := by decide +kernel
theorem dL_law_2301 : decode cL_law 2301 = .ok (.ifCond .ne 15, 3) := by decide +kernel
theorem dL_law_2304 : decode cL_law 2304 = .ok (.aload_n 3, 1) := by decide +kernel
theorem dL_law_2305 : decode cL_law 2305 = .ok (.iconst 0, 1) := by decide +kernel
theorem dL_law_2306 : decode cL_law 2306 = .ok (.laload, 1) := by decide +kernel
theorem dL_law_2307 : decode cL_law 2307 = .ok (.iload 7, 2) := by decide +kernel
theorem dL_law_2309 : decode cL_law 2309 = .ok (.i2l, 1) := by decide +kernel
theorem dL_law_2310 : decode cL_law 2310 = .ok (.lcmp, 1) := by decide +kernel
theorem dL_law_2311 : decode cL_law 2311 = .ok (.ifCond .eq 5, 3) := by decide +kernel
set_option maxRecDepth 100000 in
set_option maxHeartbeats 4000000 in
theorem law_38 {p : Program} {l : Launch} {e : Env} {s : State} {m : MethodId} {args : Array Value} {below : List Frame} {meth : Method} {c : Code} {a : Nat → Nat} {cy : Nat → ClassId} {D : va_G} {tV : Nat} {sa : Nat → Nat} {Q : State → Prop} {cells slots : Nat} {σ : Sto} {b Ln : Nat} {xs : Nat → Int32} {i : Nat} (hl : l.stackTraces = false) (C : zC p l s m args meth c cL_law 9 wsL_law RL a cy D tV sa) (hX : va_X b Ln xs s s.heap) (hb : b < s.heap.size) (hbA : ¬ zA a s.heap.size b) (hLn : Ln ≤ 2048) (hc1 : cells + 4 ≤ room_1.cells) (hc2 : slots + 24 ≤ room_1.slots) (hLI : LI σ) (hi : i + 4 ≤ Ln) (hK : ∀ σ', LI σ' → zX p l e room_1 s m args below meth c 9 a cy D Q (cells + 4) (slots + 24) σ' 2376 [(5, .int (zI (i : Int))), (4, .ref (a 298)), (3, .ref (a 297)), (2, .ref (a 283)), (1, .ref (a 0)), (0, .ref b)] []) : zX p l e room_1 s m args below meth c 9 a cy D Q cells slots σ 2275 [(5, .int (zI (i : Int))), (4, .ref (a 298)), (3, .ref (a 297)), (2, .ref (a 283)), (1, .ref (a 0)), (0, .ref b)] [] := by
  have hq := p_undo (K := LI) hLI (fun _ h => h)
  refine zr_aload_n C dL_law_2275 rfl (k := 4) rfl rfl ?_
  refine zr_aload_n C dL_law_2276 rfl (k := 2) rfl rfl ?_
  refine zr_xcall (zrunSX (hh := [(0, 8, 11, 35)]) C (st := []) (mL_undo (X := fun _ _ => False) hl zk0 zk297 hq) (vx_cwSW 2 C.2.2.2.2.1 gL_law_L_undo rfl rfl rfl (by decide +kernel) ⟨(Nat.le_of_ble_eq_true rfl), (Nat.le_of_ble_eq_true rfl)⟩) rfl rfl (Nat.le_of_ble_eq_true rfl) dL_law_2277 ⟨by omega, by omega⟩) rfl (fun _ _ _ _ _ _ _ _ hx _ _ _ _ _ _ _ => hx.elim) (fun v s1 hv => ?_)
  obtain ⟨r1, rfl, hq⟩ := hv
  refine zr_istore C (L' := [(6, .int (zI r1)), (5, .int (zI (i : Int))), (4, .ref (a 298)), (3, .ref (a 297)), (2, .ref (a 283)), (1, .ref (a 0)), (0, .ref b)]) dL_law_2280 (by decide) rfl rfl ?_
  refine zr_aload_n C dL_law_2282 rfl (k := 4) rfl rfl ?_
  refine zr_calli (zrunV C (st := []) (mX7_undo zk283 hq) (cwV 0 C.2.2.2.2.1 gL_law_X7_undo rfl rfl rfl (by decide +kernel) ⟨(Nat.le_of_ble_eq_true rfl), (Nat.le_of_ble_eq_true rfl)⟩) (zE_6 zk283) (zk_lt zk283 (by decide)) (T := TX7) (N := 19) rfl rfl rfl (Nat.le_of_ble_eq_true rfl) dL_law_2283 ⟨by omega, by omega⟩) rfl (fun b1 s2 hq => ?_)
  refine zr_istore C (L' := [(7, .int (zI b1)), (6, .int (zI r1)), (5, .int (zI (i : Int))), (4, .ref (a 298)), (3, .ref (a 297)), (2, .ref (a 283)), (1, .ref (a 0)), (0, .ref b)]) dL_law_2286 (by decide) rfl rfl ?_
  refine zr_aload_n C dL_law_2288 rfl (k := 5) rfl rfl ?_
  refine zr_calli (zrunV C (st := []) (mX7_thrown zk283 (P := fun y t => y = s2 283 7 ∧ t = s2) ⟨rfl, rfl⟩) (cwV 0 C.2.2.2.2.1 gL_law_X7_thrown rfl rfl rfl (by decide +kernel) ⟨(Nat.le_of_ble_eq_true rfl), (Nat.le_of_ble_eq_true rfl)⟩) (zE_6 zk283) (zk_lt zk283 (by decide)) (T := TX7) (N := 19) rfl rfl rfl (Nat.le_of_ble_eq_true rfl) dL_law_2289 ⟨by omega, by omega⟩) rfl (fun y s3 hy => ?_)
  obtain ⟨rfl, rfl⟩ := hy
  obtain ⟨t1, t2, t3, t4⟩ := hq
  refine zr_iload C dL_law_2292 (k := 1) rfl rfl ?_
  have hr1 : zR r1 := zR_s (by omega) (by omega)
  refine zr_icmp_eq C (tgt := 2299) dL_law_2294 (by decide) (by rw [t1]; exact hr1) hr1 rfl (fun z => ?_) (fun z => absurd t1 z)
  refine zr_iload C dL_law_2299 (k := 1) rfl rfl ?_
  have hT2 : zX p l e room_1 s m args below meth c 9 a cy D Q (cells + 1) (slots + 6) s3 2316 [(7, .int (zI b1)), (6, .int (zI r1)), (5, .int (zI (i : Int))), (4, .ref (a 298)), (3, .ref (a 297)), (2, .ref (a 283)), (1, .ref (a 0)), (0, .ref b)] [] := by
    refine zr_goto C (tgt := 2376) dL_law_2316 (by decide) ?_
    exact zr_widen (by omega) (by omega) (zr_sub C [2, 3, 4, 5, 6, 7] rfl (hK _ t4))
  refine zr_if_ne C (tgt := 2316) dL_law_2301 (by decide) hr1 rfl (fun z => hT2) (fun z => ?_)
  have t3 := t3 z
  refine zr_aload_n C dL_law_2304 rfl (k := 4) rfl rfl ?_
  refine zr_iconst C dL_law_2305 rfl ?_
  refine zr_lald C zk297 (by decide) (by rw [zn297.1]; decide) dL_law_2306 rfl ?_
  refine zr_iload C dL_law_2307 (k := 0) rfl rfl ?_
  refine zr_i2l C dL_law_2309 t3.1 rfl ?_
  have e0 : s3 297 (Int.toNat 0) = b1 := t3.2
  refine zr_lcmp C dL_law_2310 (by rw [e0]; exact zQ_R t3.1) (zQ_R t3.1) rfl ?_
  refine zr_if_eq C (tgt := 2316) dL_law_2311 (by decide) (zcmp_R _ _) rfl (fun z => hT2) (fun z => absurd (by rw [e0]; exact zcmp_self _) z)
theorem dL_law_2319 : decode cL_law 2319 = .ok (.aload_n 1, 1) := by decide +kernel
set_option maxRecDepth 20000 in
theorem ggL_law_X6_save : GoodIn wsL_law wsX6_save := goodIn_rr [(40, 4), (0, 22), (0, 21), (40, 5), (40, 6), (7, 10), (7, 11), (0, 20), (7, 12), (7, 13), (1, 18), (7, 14), (7, 15), (7, 16), (7, 17), (1, 19), (1, 20), (2, 0), (2, 1), (2, 2), (2, 3), (2, 4), (7, 18), (2, 5), (7, 19), (2, 6), (2, 7), (7, 20), (7, 21), (7, 22), (1, 23), (7, 23), (2, 13), (8, 0), (2, 14), (42, 0), (42, 1), (42, 2), (42, 3), (42, 4), (42, 5), (42, 6), (42, 7), (45, 0), (45, 1), (45, 2), (45, 3), (45, 4), (45, 5), (45, 6), (45, 7), (45, 8), (45, 9), (45, 10), (45, 11), (45, 12), (45, 13), (48, 0), (48, 1), (48, 2)] (by decide +kernel) (by decide +kernel)
set_option maxRecDepth 20000 in
theorem gL_law_X6_save : GoodIn wsL_law (wsV RL 265 RX6 yX6_save wsX6_save) := goodIn_app (goodIn_rr [(40, 1), (40, 2), (40, 3), (0, 2)] (by decide +kernel) (by decide +kernel)) ggL_law_X6_save
theorem dL_law_2320 : decode cL_law 2320 = .ok (.invokevirtual 265, 3) := by decide +kernel
theorem dL_law_2323 : decode cL_law 2323 = .ok (.aload_n 2, 1) := by decide +kernel
set_option maxRecDepth 20000 in
theorem ggL_law_X7_save : GoodIn wsL_law wsX7_save := goodIn_rr [(40, 10), (5, 3), (3, 12), (3, 14), (8, 14), (7, 15), (7, 16), (7, 17), (40, 11), (43, 0), (43, 1), (43, 2), (43, 3), (43, 4), (43, 5), (43, 6), (43, 7), (43, 8), (43, 9), (43, 10), (43, 11), (43, 12), (43, 13), (43, 14), (43, 15), (43, 16), (43, 17), (43, 18)] (by decide +kernel) (by decide +kernel)
set_option maxRecDepth 20000 in
theorem gL_law_X7_save : GoodIn wsL_law (wsV RL 268 RX7 yX7_save wsX7_save) := goodIn_app (goodIn_rr [(40, 7), (40, 8), (40, 9), (0, 5)] (by decide +kernel) (by decide +kernel)) ggL_law_X7_save
theorem dL_law_2324 : decode cL_law 2324 = .ok (.invokevirtual 268, 3) := by decide +kernel
theorem dL_law_2327 : decode cL_law 2327 = .ok (.if_icmp .eq 49, 3) := by decide +kernel
set_option maxRecDepth 100000 in
set_option maxHeartbeats 4000000 in
theorem law_39 {p : Program} {l : Launch} {e : Env} {s : State} {m : MethodId} {args : Array Value} {below : List Frame} {meth : Method} {c : Code} {a : Nat → Nat} {cy : Nat → ClassId} {D : va_G} {tV : Nat} {sa : Nat → Nat} {Q : State → Prop} {cells slots : Nat} {σ : Sto} {b Ln : Nat} {xs : Nat → Int32} {i : Nat} (hl : l.stackTraces = false) (C : zC p l s m args meth c cL_law 9 wsL_law RL a cy D tV sa) (hX : va_X b Ln xs s s.heap) (hb : b < s.heap.size) (hbA : ¬ zA a s.heap.size b) (hLn : Ln ≤ 2048) (hc1 : cells + 4 ≤ room_1.cells) (hc2 : slots + 24 ≤ room_1.slots) (hLI : LI σ) (hi : i + 4 ≤ Ln) (hK : ∀ σ', LI σ' → zX p l e room_1 s m args below meth c 9 a cy D Q (cells + 4) (slots + 24) σ' 2376 [(5, .int (zI (i : Int))), (4, .ref (a 298)), (3, .ref (a 297)), (2, .ref (a 283)), (1, .ref (a 0)), (0, .ref b)] []) : zX p l e room_1 s m args below meth c 9 a cy D Q cells slots σ 2319 [(5, .int (zI (i : Int))), (4, .ref (a 298)), (3, .ref (a 297)), (2, .ref (a 283)), (1, .ref (a 0)), (0, .ref b)] [] := by
  have hq := p_save (K := LI) hLI (fun _ h => h)
  refine zr_aload_n C dL_law_2319 rfl (k := 4) rfl rfl ?_
  refine zr_calli (zrunV C (st := []) (mX6_save zk0 hq) (cwV 0 C.2.2.2.2.1 gL_law_X6_save rfl rfl rfl (by decide +kernel) ⟨(Nat.le_of_ble_eq_true rfl), (Nat.le_of_ble_eq_true rfl)⟩) (zE_5 zk0) (zk_lt zk0 (by decide)) (T := TX6) (N := 8) rfl rfl rfl (Nat.le_of_ble_eq_true rfl) dL_law_2320 ⟨by omega, by omega⟩) rfl (fun r1 s1 hq => ?_)
  refine zr_aload_n C dL_law_2323 rfl (k := 3) rfl rfl ?_
  refine zr_calli (zrunV C (st := [.int (zI r1)]) (mX7_save zk283 hq) (cwV 0 C.2.2.2.2.1 gL_law_X7_save rfl rfl rfl (by decide +kernel) ⟨(Nat.le_of_ble_eq_true rfl), (Nat.le_of_ble_eq_true rfl)⟩) (zE_6 zk283) (zk_lt zk283 (by decide)) (T := TX7) (N := 19) rfl rfl rfl (Nat.le_of_ble_eq_true rfl) dL_law_2324 ⟨by omega, by omega⟩) rfl (fun b1 s2 hq => ?_)
  obtain ⟨t1, t2, t4⟩ := hq
  refine zr_icmp_eq C (tgt := 2376) dL_law_2327 (by decide) (by rw [t1]; exact t2) t2 rfl (fun z => ?_) (fun z => absurd t1 z)
  exact zr_widen (by omega) (by omega) (zr_sub C [0, 1, 2, 3, 4, 5] rfl (hK _ t4))
theorem dL_law_2332 : decode cL_law 2332 = .ok (.aload_n 1, 1) := by decide +kernel
theorem dL_law_2333 : decode cL_law 2333 = .ok (.aload_n 3, 1) := by decide +kernel
set_option maxRecDepth 20000 in
theorem ggL_law_L_restore : GoodIn wsL_law wsL_restore := goodIn_ca (goodIn_rr [(40, 14), (4, 7), (40, 15), (40, 16), (40, 17), (0, 2), (40, 18), (4, 14), (4, 15), (40, 5), (0, 21), (0, 22), (1, 2), (1, 6), (40, 6), (7, 10), (7, 11), (0, 20), (7, 12), (7, 13), (1, 18), (7, 14), (7, 15), (7, 16), (7, 17), (1, 19), (1, 20), (2, 0), (2, 1), (2, 2), (2, 3), (2, 4), (7, 18), (2, 5), (7, 19), (2, 6), (2, 7), (7, 20), (7, 21), (7, 22), (1, 23), (7, 23), (2, 13), (8, 0), (2, 14), (40, 19), (40, 20), (40, 21), (1, 1), (40, 22), (7, 4), (42, 0), (42, 1), (42, 2), (42, 3), (42, 4), (42, 5), (42, 6), (42, 7), (47, 0), (47, 1), (47, 2), (47, 3), (47, 4), (47, 5), (47, 6), (45, 0), (45, 1), (45, 2), (45, 3), (45, 4), (45, 5), (45, 6), (45, 7), (45, 8), (45, 9), (45, 10), (45, 11), (45, 12), (45, 13), (48, 0), (48, 1), (48, 2), (46, 0), (46, 1), (46, 2)] (by decide +kernel) (by decide +kernel)) (goodIn_sub (fun _ h => List.mem_append_left _ (List.mem_append_left _ (List.mem_append_right _ h))) (all_gw _))
set_option maxRecDepth 20000 in
theorem gL_law_L_restore : GoodIn wsL_law (va_wsS RL 269 yL_restore wsL_restore) := goodIn_app (goodIn_rr [(40, 12), (40, 13), (4, 4)] (by decide +kernel) (by decide +kernel)) ggL_law_L_restore
theorem dL_law_2334 : decode cL_law 2334 = .ok (.invokestatic 269, 3) := by decide +kernel
theorem dL_law_2337 : decode cL_law 2337 = .ok (.istore 6, 2) := by decide +kernel
theorem dL_law_2339 : decode cL_law 2339 = .ok (.aload_n 2, 1) := by decide +kernel
set_option maxRecDepth 20000 in
theorem ggL_law_X7_restore : GoodIn wsL_law wsX7_restore := goodIn_rr [(41, 2), (40, 11), (5, 3), (3, 14), (3, 12), (8, 14), (7, 15), (7, 16), (7, 17), (8, 13), (8, 15), (43, 0), (43, 1), (43, 2), (43, 3), (43, 4), (43, 5), (43, 6), (43, 7), (43, 8), (43, 9), (43, 10), (43, 11), (43, 12), (43, 13), (43, 14), (43, 15), (43, 16), (43, 17), (43, 18)] (by decide +kernel) (by decide +kernel)
set_option maxRecDepth 20000 in
theorem gL_law_X7_restore : GoodIn wsL_law (wsV RL 271 RX7 yX7_restore wsX7_restore) := goodIn_app (goodIn_rr [(40, 23), (41, 0), (41, 1), (0, 5)] (by decide +kernel) (by decide +kernel)) ggL_law_X7_restore
theorem dL_law_2340 : decode cL_law 2340 = .ok (.invokevirtual 271, 3) := by decide +kernel
theorem dL_law_2343 : decode cL_law 2343 = .ok (.istore 7, 2) := by decide +kernel
theorem dL_law_2345 : decode cL_law 2345 = .ok (.aload_n 2, 1) := by decide +kernel
theorem dL_law_2346 : decode cL_law 2346 = .ok (.invokevirtual 136, 3) := by decide +kernel
theorem dL_law_2349 : decode cL_law 2349 = .ok (.iload 6, 2) := by decide +kernel
theorem dL_law_2351 : decode cL_law 2351 = .ok (.if_icmp .eq 5, 3) := by decide +kernel
theorem dL_law_2356 : decode cL_law 2356 = .ok (.iload 6, 2) := by decide +kernel
theorem dL_law_2373 : decode cL_law 2373 = .ok (.goto 3, 3) := by decide +kernel
theorem dL_law_2358 : decode cL_law 2358 = .ok (.ifCond .ne 15, 3) := by decide +kernel
theorem dL_law_2361 : decode cL_law 2361 = .ok (.aload_n 3, 1) := by decide +kernel
theorem dL_law_2362 : decode cL_law 2362 = .ok (.iconst 0, 1) := by decide +kernel
theorem dL_law_2363 : decode cL_law 2363 = .ok (.laload, 1) := by decide +kernel
theorem dL_law_2364 : decode cL_law 2364 = .ok (.iload 7, 2) := by decide +kernel
theorem dL_law_2366 : decode cL_law 2366 = .ok (.i2l, 1) := by decide +kernel
theorem dL_law_2367 : decode cL_law 2367 = .ok (.lcmp, 1) := by decide +kernel
theorem dL_law_2368 : decode cL_law 2368 = .ok (.ifCond .eq 5, 3) := by decide +kernel
set_option maxRecDepth 100000 in
set_option maxHeartbeats 4000000 in
theorem law_40 {p : Program} {l : Launch} {e : Env} {s : State} {m : MethodId} {args : Array Value} {below : List Frame} {meth : Method} {c : Code} {a : Nat → Nat} {cy : Nat → ClassId} {D : va_G} {tV : Nat} {sa : Nat → Nat} {Q : State → Prop} {cells slots : Nat} {σ : Sto} {b Ln : Nat} {xs : Nat → Int32} {i : Nat} (hl : l.stackTraces = false) (C : zC p l s m args meth c cL_law 9 wsL_law RL a cy D tV sa) (hX : va_X b Ln xs s s.heap) (hb : b < s.heap.size) (hbA : ¬ zA a s.heap.size b) (hLn : Ln ≤ 2048) (hc1 : cells + 4 ≤ room_1.cells) (hc2 : slots + 24 ≤ room_1.slots) (hLI : LI σ) (hi : i + 4 ≤ Ln) (hK : ∀ σ', LI σ' → zX p l e room_1 s m args below meth c 9 a cy D Q (cells + 4) (slots + 24) σ' 2376 [(5, .int (zI (i : Int))), (4, .ref (a 298)), (3, .ref (a 297)), (2, .ref (a 283)), (1, .ref (a 0)), (0, .ref b)] []) : zX p l e room_1 s m args below meth c 9 a cy D Q cells slots σ 2332 [(5, .int (zI (i : Int))), (4, .ref (a 298)), (3, .ref (a 297)), (2, .ref (a 283)), (1, .ref (a 0)), (0, .ref b)] [] := by
  have hq := p_restore (K := LI) hLI (fun _ h => h)
  refine zr_aload_n C dL_law_2332 rfl (k := 4) rfl rfl ?_
  refine zr_aload_n C dL_law_2333 rfl (k := 2) rfl rfl ?_
  refine zr_xcall (zrunSX (hh := [(0, 8, 11, 15)]) C (st := []) (mL_restore (X := fun _ _ => False) hl zk0 zk297 hq) (vx_cwSW 2 C.2.2.2.2.1 gL_law_L_restore rfl rfl rfl (by decide +kernel) ⟨(Nat.le_of_ble_eq_true rfl), (Nat.le_of_ble_eq_true rfl)⟩) rfl rfl (Nat.le_of_ble_eq_true rfl) dL_law_2334 ⟨by omega, by omega⟩) rfl (fun _ _ _ _ _ _ _ _ hx _ _ _ _ _ _ _ => hx.elim) (fun v s1 hv => ?_)
  obtain ⟨r1, rfl, hq⟩ := hv
  refine zr_istore C (L' := [(6, .int (zI r1)), (5, .int (zI (i : Int))), (4, .ref (a 298)), (3, .ref (a 297)), (2, .ref (a 283)), (1, .ref (a 0)), (0, .ref b)]) dL_law_2337 (by decide) rfl rfl ?_
  refine zr_aload_n C dL_law_2339 rfl (k := 4) rfl rfl ?_
  refine zr_calli (zrunV C (st := []) (mX7_restore zk283 hq) (cwV 0 C.2.2.2.2.1 gL_law_X7_restore rfl rfl rfl (by decide +kernel) ⟨(Nat.le_of_ble_eq_true rfl), (Nat.le_of_ble_eq_true rfl)⟩) (zE_6 zk283) (zk_lt zk283 (by decide)) (T := TX7) (N := 19) rfl rfl rfl (Nat.le_of_ble_eq_true rfl) dL_law_2340 ⟨by omega, by omega⟩) rfl (fun b1 s2 hq => ?_)
  refine zr_istore C (L' := [(7, .int (zI b1)), (6, .int (zI r1)), (5, .int (zI (i : Int))), (4, .ref (a 298)), (3, .ref (a 297)), (2, .ref (a 283)), (1, .ref (a 0)), (0, .ref b)]) dL_law_2343 (by decide) rfl rfl ?_
  refine zr_aload_n C dL_law_2345 rfl (k := 5) rfl rfl ?_
  refine zr_calli (zrunV C (st := []) (mX7_thrown zk283 (P := fun y t => y = s2 283 7 ∧ t = s2) ⟨rfl, rfl⟩) (cwV 0 C.2.2.2.2.1 gL_law_X7_thrown rfl rfl rfl (by decide +kernel) ⟨(Nat.le_of_ble_eq_true rfl), (Nat.le_of_ble_eq_true rfl)⟩) (zE_6 zk283) (zk_lt zk283 (by decide)) (T := TX7) (N := 19) rfl rfl rfl (Nat.le_of_ble_eq_true rfl) dL_law_2346 ⟨by omega, by omega⟩) rfl (fun y s3 hy => ?_)
  obtain ⟨rfl, rfl⟩ := hy
  obtain ⟨t1, t2, t3, t4⟩ := hq
  refine zr_iload C dL_law_2349 (k := 1) rfl rfl ?_
  have hr1 : zR r1 := zR_s (by omega) (by omega)
  refine zr_icmp_eq C (tgt := 2356) dL_law_2351 (by decide) (by rw [t1]; exact hr1) hr1 rfl (fun z => ?_) (fun z => absurd t1 z)
  refine zr_iload C dL_law_2356 (k := 1) rfl rfl ?_
  have hT2 : zX p l e room_1 s m args below meth c 9 a cy D Q (cells + 1) (slots + 6) s3 2373 [(7, .int (zI b1)), (6, .int (zI r1)), (5, .int (zI (i : Int))), (4, .ref (a 298)), (3, .ref (a 297)), (2, .ref (a 283)), (1, .ref (a 0)), (0, .ref b)] [] := by
    refine zr_goto C (tgt := 2376) dL_law_2373 (by decide) ?_
    exact zr_widen (by omega) (by omega) (zr_sub C [2, 3, 4, 5, 6, 7] rfl (hK _ t4))
  refine zr_if_ne C (tgt := 2373) dL_law_2358 (by decide) hr1 rfl (fun z => hT2) (fun z => ?_)
  have t3 := t3 z
  refine zr_aload_n C dL_law_2361 rfl (k := 4) rfl rfl ?_
  refine zr_iconst C dL_law_2362 rfl ?_
  refine zr_lald C zk297 (by decide) (by rw [zn297.1]; decide) dL_law_2363 rfl ?_
  refine zr_iload C dL_law_2364 (k := 0) rfl rfl ?_
  refine zr_i2l C dL_law_2366 t3.1 rfl ?_
  have e0 : s3 297 (Int.toNat 0) = b1 := t3.2
  refine zr_lcmp C dL_law_2367 (by rw [e0]; exact zQ_R t3.1) (zQ_R t3.1) rfl ?_
  refine zr_if_eq C (tgt := 2373) dL_law_2368 (by decide) (zcmp_R _ _) rfl (fun z => hT2) (fun z => absurd (by rw [e0]; exact zcmp_self _) z)
