section ZLw
variable {D : va_G} {dT : ZT} {bs nL : Nat} {own : String} {cc : ByteArray} {ret' : Option FieldType} {p : Program} {l : Launch} {e : Env} {R : Room} {s : State} {m : MethodId} {args : Array Value} {below : List Frame} {meth : Method} {c : Code} {cells slots : Nat} {Q : State → Prop} {h : HH} {S : SS} {pc pc' tgt : Nat} {L L' : List (Nat × Value)} {st : List Value}
theorem r_sld (C : Cx D dT bs own cc nL ret' p s m args meth c) {b n : Nat} {xs : Nat → Int32} (hX : va_X b n xs s s.heap) (hbl : b < s.heap.size) (hbA : ¬ AA bs b) (hn : n ≤ 3072) {i : Int} (k : Int) (h0 : 0 ≤ i) (h6 : i + 6 ≤ n) (hk : 0 ≤ k ∧ k < 6) {w : Int → Int} (hw : ∀ k : Int, w k = (xs (i + k).toNat).toInt) (hd : decode cc pc = .ok (.iaload, 1)) (hp : pc + 1 = pc') (kk : V D dT bs nL p l e R s m args below meth c cells slots Q h S pc' L (zI (w k) :: st)) : V D dT bs nL p l e R s m args below meth c cells slots Q h S pc L (zI (i + k) :: .ref b :: st) := by
  intro H locs ls hP hS hl
  subst hp
  have hv : ww (i + k) = i + k := ww_id (by omega) (by omega)
  have hcl := ww_cl hv (by omega)
  refine va_sld C.1 C.2.1 hX hbl hbA hS (i := Int32.ofInt (i + k)) (by have := ww_vp (n := n) hv ⟨by omega, by omega⟩; simpa using this) hd ?_
  have k2 := kk H locs ls hP hS hl
  rw [hw k, zI_toInt, ← hcl] at k2
  exact k2
theorem r_sld0 (C : Cx D dT bs own cc nL ret' p s m args meth c) {b n : Nat} {xs : Nat → Int32} (hX : va_X b n xs s s.heap) (hbl : b < s.heap.size) (hbA : ¬ AA bs b) (hn : n ≤ 3072) {i : Int} (h0 : 0 ≤ i) (h6 : i + 6 ≤ n) {w : Int → Int} (hw : ∀ k : Int, w k = (xs (i + k).toNat).toInt) (hd : decode cc pc = .ok (.iaload, 1)) (hp : pc + 1 = pc') (kk : V D dT bs nL p l e R s m args below meth c cells slots Q h S pc' L (zI (w 0) :: st)) : V D dT bs nL p l e R s m args below meth c cells slots Q h S pc L (zI i :: .ref b :: st) := by
  have k2 := r_sld (st := st) (pc := pc) C hX hbl hbA hn 0 h0 h6 (by decide) hw hd hp kk
  rw [Int.add_zero] at k2
  exact k2
theorem r_slen0 (C : Cx D dT bs own cc nL ret' p s m args meth c) {b n : Nat} {xs : Nat → Int32} (hX : va_X b n xs s s.heap) (hbl : b < s.heap.size) (hbA : ¬ AA bs b) (hd : decode cc pc = .ok (.arraylength, 1)) (hp : pc + 1 = pc') (kk : V D dT bs nL p l e R s m args below meth c cells slots Q h S pc' L (zI n :: st)) : V D dT bs nL p l e R s m args below meth c cells slots Q h S pc L (.ref b :: st) := by
  intro H locs ls hP hS hl
  subst hp
  have k2 := kk H locs ls hP hS hl
  rw [zI, ofI_nat] at k2
  exact va_slen C.1 C.2.1 hX hbl hbA hS hd k2
end ZLw
theorem wv_RL_13 : WV RL 13 RX11 yX11_hater cX11_hater 4 (some Jvm.ClassFile.FieldType.int) 3 := ⟨lwb_callV wd_351 wd_352 wd_353 wd_95 wd_354, rfl, by decide, by decide, by decide +kernel⟩
theorem wv_RL_17 : WV RL 17 RX12 yX12_hater cX12_hater 5 (some Jvm.ClassFile.FieldType.int) 3 := ⟨lwb_callV wd_1403 wd_1404 wd_1405 wd_105 wd_1406, rfl, by decide, by decide, by decide +kernel⟩
theorem wv_RL_18 : WV RL 18 RX11 yX11_of cX11_of 3 (some Jvm.ClassFile.FieldType.int) 2 := ⟨lwb_callV wd_477 wd_478 wd_479 wd_95 wd_480, rfl, by decide, by decide, by decide +kernel⟩
theorem wv_RL_22 : WV RL 22 RX12 yX12_of cX12_of 3 (some Jvm.ClassFile.FieldType.int) 2 := ⟨lwb_callV wd_1583 wd_1584 wd_1585 wd_105 wd_1586, rfl, by decide, by decide, by decide +kernel⟩
theorem wv_RL_23 : WV RL 23 RX11 yX11_hate cX11_hate 5 (some Jvm.ClassFile.FieldType.int) 3 := ⟨lwb_callV wd_570 wd_571 wd_572 wd_95 wd_573, rfl, by decide, by decide, by decide +kernel⟩
theorem wv_RL_26 : WV RL 26 RX12 yX12_hate cX12_hate 5 (some Jvm.ClassFile.FieldType.int) 3 := ⟨lwb_callV wd_1415 wd_1416 wd_1417 wd_105 wd_1418, rfl, by decide, by decide, by decide +kernel⟩
theorem wv_RL_27 : WV RL 27 RX11 yX11_lead cX11_lead 4 (some Jvm.ClassFile.FieldType.int) 2 := ⟨lwb_callV wd_574 wd_575 wd_576 wd_95 wd_577, rfl, by decide, by decide, by decide +kernel⟩
theorem wv_RL_30 : WV RL 30 RX12 yX12_lead cX12_lead 4 (some Jvm.ClassFile.FieldType.int) 2 := ⟨lwb_callV wd_1427 wd_1428 wd_1429 wd_105 wd_1430, rfl, by decide, by decide, by decide +kernel⟩
theorem wv_RL_31 : WV RL 31 RX11 yX11_leave cX11_leave 4 (some Jvm.ClassFile.FieldType.int) 2 := ⟨lwb_callV wd_583 wd_584 wd_585 wd_95 wd_586, rfl, by decide, by decide, by decide +kernel⟩
theorem wv_RL_35 : WV RL 35 RX12 yX12_leave cX12_leave 4 (some Jvm.ClassFile.FieldType.int) 2 := ⟨lwb_callV wd_1435 wd_1436 wd_1437 wd_105 wd_1438, rfl, by decide, by decide, by decide +kernel⟩
theorem wv_RL_36 : WV RL 36 RX11 yX11_row cX11_row 5 (some Jvm.ClassFile.FieldType.int) 3 := ⟨lwb_callV wd_587 wd_588 wd_589 wd_95 wd_590, rfl, by decide, by decide, by decide +kernel⟩
theorem wv_RL_39 : WV RL 39 RX12 yX12_row cX12_row 5 (some Jvm.ClassFile.FieldType.int) 3 := ⟨lwb_callV wd_1447 wd_1448 wd_1449 wd_105 wd_1450, rfl, by decide, by decide, by decide +kernel⟩
theorem wv_RL_40 : WV RL 40 RX11 yX11_feed cX11_feed 2 (some Jvm.ClassFile.FieldType.int) 1 := ⟨lwb_callV wd_591 wd_592 wd_593 wd_95 wd_594, rfl, by decide, by decide, by decide +kernel⟩
theorem wv_RL_44 : WV RL 44 RX12 yX12_feed cX12_feed 2 (some Jvm.ClassFile.FieldType.int) 1 := ⟨lwb_callV wd_1451 wd_1452 wd_1453 wd_105 wd_1454, rfl, by decide, by decide, by decide +kernel⟩
theorem wv_RL_45 : WV RL 45 RX11 yX11_orchard cX11_orchard 3 (some Jvm.ClassFile.FieldType.int) 0 := ⟨lwb_callV wd_599 wd_600 wd_601 wd_95 wd_602, rfl, by decide, by decide, by decide +kernel⟩
theorem wv_RL_49 : WV RL 49 RX12 yX12_orchard cX12_orchard 2 (some Jvm.ClassFile.FieldType.int) 0 := ⟨lwb_callV wd_1455 wd_1456 wd_1457 wd_105 wd_1458, rfl, by decide, by decide, by decide +kernel⟩
theorem wv_RL_50 : WV RL 50 RX11 yX11_told cX11_told 2 (some Jvm.ClassFile.FieldType.int) 1 := ⟨lwb_callV wd_756 wd_757 wd_758 wd_95 wd_759, rfl, by decide, by decide, by decide +kernel⟩
theorem wv_RL_53 : WV RL 53 RX12 yX12_told cX12_told 2 (some Jvm.ClassFile.FieldType.int) 1 := ⟨lwb_callV wd_1625 wd_1626 wd_1627 wd_105 wd_1628, rfl, by decide, by decide, by decide +kernel⟩
theorem wv_RL_54 : WV RL 54 RX11 yX11_pass cX11_pass 2 (some Jvm.ClassFile.FieldType.int) 1 := ⟨lwb_callV wd_800 wd_801 wd_802 wd_95 wd_803, rfl, by decide, by decide, by decide +kernel⟩
theorem wv_RL_57 : WV RL 57 RX12 yX12_pass cX12_pass 2 (some Jvm.ClassFile.FieldType.int) 1 := ⟨lwb_callV wd_1515 wd_1516 wd_1517 wd_105 wd_1518, rfl, by decide, by decide, by decide +kernel⟩
theorem wv_RL_58 : WV RL 58 RX11 yX11_on cX11_on 7 (some Jvm.ClassFile.FieldType.int) 2 := ⟨lwb_callV wd_812 wd_813 wd_814 wd_95 wd_815, rfl, by decide, by decide, by decide +kernel⟩
theorem wv_RL_61 : WV RL 61 RX12 yX12_on cX12_on 4 (some Jvm.ClassFile.FieldType.int) 2 := ⟨lwb_callV wd_1604 wd_1605 wd_1606 wd_105 wd_1607, rfl, by decide, by decide, by decide +kernel⟩
theorem wv_RL_62 : WV RL 62 RX11 yX11_ring cX11_ring 5 (some Jvm.ClassFile.FieldType.int) 1 := ⟨lwb_callV wd_816 wd_817 wd_818 wd_95 wd_819, rfl, by decide, by decide, by decide +kernel⟩
theorem wv_RL_65 : WV RL 65 RX12 yX12_ring cX12_ring 2 (some Jvm.ClassFile.FieldType.int) 1 := ⟨lwb_callV wd_1608 wd_1609 wd_1610 wd_105 wd_1611, rfl, by decide, by decide, by decide +kernel⟩
theorem wv_RL_66 : WV RL 66 RX11 yX11_turn cX11_turn 5 (some Jvm.ClassFile.FieldType.int) 3 := ⟨lwb_callV wd_828 wd_829 wd_830 wd_95 wd_831, rfl, by decide, by decide, by decide +kernel⟩
theorem wv_RL_69 : WV RL 69 RX12 yX12_turn cX12_turn 9 (some Jvm.ClassFile.FieldType.int) 3 := ⟨lwb_callV wd_1637 wd_1638 wd_1639 wd_105 wd_1640, rfl, by decide, by decide, by decide +kernel⟩
theorem wv_RL_70 : WV RL 70 RX11 yX11_see cX11_see 5 (some Jvm.ClassFile.FieldType.int) 4 := ⟨lwb_callV wd_844 wd_845 wd_846 wd_95 wd_847, rfl, by decide, by decide, by decide +kernel⟩
theorem wv_RL_74 : WV RL 74 RX12 yX12_see cX12_see 5 (some Jvm.ClassFile.FieldType.int) 4 := ⟨lwb_callV wd_1649 wd_1650 wd_1651 wd_105 wd_1652, rfl, by decide, by decide, by decide +kernel⟩
theorem wv_RL_75 : WV RL 75 RX11 yX11_hates cX11_hates 7 (some Jvm.ClassFile.FieldType.int) 3 := ⟨lwb_callV wd_852 wd_853 wd_854 wd_95 wd_855, rfl, by decide, by decide, by decide +kernel⟩
theorem wv_RL_78 : WV RL 78 RX12 yX12_hates cX12_hates 8 (some Jvm.ClassFile.FieldType.int) 3 := ⟨lwb_callV wd_1653 wd_1654 wd_1655 wd_105 wd_1656, rfl, by decide, by decide, by decide +kernel⟩
theorem wv_RL_79 : WV RL 79 RX11 yX11_can cX11_can 6 (some Jvm.ClassFile.FieldType.int) 2 := ⟨lwb_callV wd_861 wd_862 wd_863 wd_95 wd_864, rfl, by decide, by decide, by decide +kernel⟩
theorem wv_RL_82 : WV RL 82 RX12 yX12_can cX12_can 7 (some Jvm.ClassFile.FieldType.int) 2 := ⟨lwb_callV wd_1661 wd_1662 wd_1663 wd_105 wd_1664, rfl, by decide, by decide, by decide +kernel⟩
theorem wv_RL_83 : WV RL 83 RX11 yX11_odds cX11_odds 5 (some Jvm.ClassFile.FieldType.long) 2 := ⟨lwb_callV wd_865 wd_866 wd_867 wd_95 wd_868, rfl, by decide, by decide, by decide +kernel⟩
theorem wv_RL_87 : WV RL 87 RX12 yX12_odds cX12_odds 5 (some Jvm.ClassFile.FieldType.long) 2 := ⟨lwb_callV wd_1665 wd_1666 wd_1667 wd_105 wd_1668, rfl, by decide, by decide, by decide +kernel⟩
theorem wv_RL_88 : WV RL 88 RX11 yX11_mean cX11_mean 5 (some Jvm.ClassFile.FieldType.long) 2 := ⟨lwb_callV wd_874 wd_875 wd_876 wd_95 wd_877, rfl, by decide, by decide, by decide +kernel⟩
theorem wv_RL_91 : WV RL 91 RX12 yX12_mean cX12_mean 5 (some Jvm.ClassFile.FieldType.long) 2 := ⟨lwb_callV wd_1678 wd_1679 wd_1680 wd_105 wd_1681, rfl, by decide, by decide, by decide +kernel⟩
theorem wv_RL_92 : WV RL 92 RX11 yX11_plan cX11_plan 3 (some Jvm.ClassFile.FieldType.int) 2 := ⟨lwb_callV wd_878 wd_879 wd_880 wd_95 wd_881, rfl, by decide, by decide, by decide +kernel⟩
theorem wv_RL_95 : WV RL 95 RX12 yX12_plan cX12_plan 3 (some Jvm.ClassFile.FieldType.int) 2 := ⟨lwb_callV wd_1682 wd_1683 wd_1684 wd_105 wd_1685, rfl, by decide, by decide, by decide +kernel⟩
theorem wv_RL_96 : WV RL 96 RX11 yX11_ends cX11_ends 4 (some Jvm.ClassFile.FieldType.int) 1 := ⟨lwb_callV wd_886 wd_887 wd_888 wd_95 wd_889, rfl, by decide, by decide, by decide +kernel⟩
theorem wv_RL_99 : WV RL 99 RX12 yX12_ends cX12_ends 3 (some Jvm.ClassFile.FieldType.int) 1 := ⟨lwb_callV wd_1690 wd_1691 wd_1692 wd_105 wd_1693, rfl, by decide, by decide, by decide +kernel⟩
theorem wv_RL_100 : WV RL 100 RX11 yX11_book cX11_book 3 (some Jvm.ClassFile.FieldType.int) 2 := ⟨lwb_callV wd_900 wd_901 wd_902 wd_95 wd_903, rfl, by decide, by decide, by decide +kernel⟩
theorem wv_RL_103 : WV RL 103 RX12 yX12_book cX12_book 3 (some Jvm.ClassFile.FieldType.int) 2 := ⟨lwb_callV wd_1702 wd_1703 wd_1704 wd_105 wd_1705, rfl, by decide, by decide, by decide +kernel⟩
theorem wv_RL_104 : WV RL 104 RX11 yX11_looked cX11_looked 3 (some Jvm.ClassFile.FieldType.int) 0 := ⟨lwb_callV wd_904 wd_905 wd_906 wd_95 wd_907, rfl, by decide, by decide, by decide +kernel⟩
theorem wv_RL_107 : WV RL 107 RX12 yX12_looked cX12_looked 2 (some Jvm.ClassFile.FieldType.int) 0 := ⟨lwb_callV wd_1706 wd_1707 wd_1708 wd_105 wd_1709, rfl, by decide, by decide, by decide +kernel⟩
theorem wv_RL_108 : WV RL 108 RX11 yX11_judge cX11_judge 4 (some Jvm.ClassFile.FieldType.int) 2 := ⟨lwb_callV wd_908 wd_909 wd_910 wd_95 wd_911, rfl, by decide, by decide, by decide +kernel⟩
theorem wv_RL_111 : WV RL 111 RX12 yX12_judge cX12_judge 4 (some Jvm.ClassFile.FieldType.int) 2 := ⟨lwb_callV wd_1710 wd_1711 wd_1712 wd_105 wd_1713, rfl, by decide, by decide, by decide +kernel⟩
theorem wv_RL_112 : WV RL 112 RX11 yX11_image cX11_image 1 (some Jvm.ClassFile.FieldType.int) 0 := ⟨lwb_callV wd_919 wd_920 wd_921 wd_95 wd_922, rfl, by decide, by decide, by decide +kernel⟩
theorem wv_RL_115 : WV RL 115 RX12 yX12_image cX12_image 2 (some Jvm.ClassFile.FieldType.int) 0 := ⟨lwb_callV wd_1718 wd_1719 wd_1720 wd_105 wd_1721, rfl, by decide, by decide, by decide +kernel⟩
theorem wv_RL_116 : WV RL 116 RX11 yX11_undo cX11_undo 1 (some Jvm.ClassFile.FieldType.int) 0 := ⟨lwb_callV wd_933 wd_934 wd_935 wd_95 wd_936, rfl, by decide, by decide, by decide +kernel⟩
theorem wv_RL_119 : WV RL 119 RX12 yX12_undo cX12_undo 2 (some Jvm.ClassFile.FieldType.int) 0 := ⟨lwb_callV wd_1722 wd_1723 wd_1724 wd_105 wd_1725, rfl, by decide, by decide, by decide +kernel⟩
theorem wv_RL_120 : WV RL 120 RX11 yX11_act cX11_act 5 (some Jvm.ClassFile.FieldType.int) 3 := ⟨lwb_callV wd_937 wd_938 wd_939 wd_95 wd_940, rfl, by decide, by decide, by decide +kernel⟩
theorem wv_RL_123 : WV RL 123 RX12 yX12_act cX12_act 4 (some Jvm.ClassFile.FieldType.int) 3 := ⟨lwb_callV wd_1726 wd_1727 wd_1728 wd_105 wd_1729, rfl, by decide, by decide, by decide +kernel⟩
theorem wv_RL_124 : WV RL 124 RX11 yX11_trace cX11_trace 2 (some Jvm.ClassFile.FieldType.int) 1 := ⟨lwb_callV wd_1102 wd_1103 wd_1104 wd_95 wd_1105, rfl, by decide, by decide, by decide +kernel⟩
theorem wv_RL_127 : WV RL 127 RX12 yX12_trace cX12_trace 2 (some Jvm.ClassFile.FieldType.int) 1 := ⟨lwb_callV wd_1762 wd_1763 wd_1764 wd_105 wd_1765, rfl, by decide, by decide, by decide +kernel⟩
theorem wv_RL_128 : WV RL 128 RX11 yX11_taken cX11_taken 4 (some Jvm.ClassFile.FieldType.int) 2 := ⟨lwb_callV wd_1127 wd_1128 wd_1129 wd_95 wd_1130, rfl, by decide, by decide, by decide +kernel⟩
theorem wv_RL_131 : WV RL 131 RX12 yX12_taken cX12_taken 4 (some Jvm.ClassFile.FieldType.int) 2 := ⟨lwb_callV wd_1766 wd_1767 wd_1768 wd_105 wd_1769, rfl, by decide, by decide, by decide +kernel⟩
theorem wv_RL_132 : WV RL 132 RX11 yX11_count cX11_count 2 (some Jvm.ClassFile.FieldType.int) 1 := ⟨lwb_callV wd_1134 wd_1135 wd_1136 wd_95 wd_1137, rfl, by decide, by decide, by decide +kernel⟩
theorem wv_RL_135 : WV RL 135 RX12 yX12_count cX12_count 2 (some Jvm.ClassFile.FieldType.int) 1 := ⟨lwb_callV wd_1770 wd_1771 wd_1772 wd_105 wd_1773, rfl, by decide, by decide, by decide +kernel⟩
theorem wv_RL_136 : WV RL 136 RX11 yX11_tape cX11_tape 4 (some Jvm.ClassFile.FieldType.int) 3 := ⟨lwb_callV wd_1138 wd_1139 wd_1140 wd_95 wd_1141, rfl, by decide, by decide, by decide +kernel⟩
theorem wv_RL_139 : WV RL 139 RX12 yX12_tape cX12_tape 5 (some Jvm.ClassFile.FieldType.int) 3 := ⟨lwb_callV wd_1774 wd_1775 wd_1776 wd_105 wd_1777, rfl, by decide, by decide, by decide +kernel⟩
theorem wv_RL_142 : WV RL 142 RX11 yX11_item cX11_item 5 (some Jvm.ClassFile.FieldType.int) 3 := ⟨lwb_callV wd_1145 wd_1146 wd_1147 wd_95 wd_1148, rfl, by decide, by decide, by decide +kernel⟩
theorem wv_RL_146 : WV RL 146 RX12 yX12_item cX12_item 5 (some Jvm.ClassFile.FieldType.int) 3 := ⟨lwb_callV wd_1778 wd_1779 wd_1780 wd_105 wd_1781, rfl, by decide, by decide, by decide +kernel⟩
theorem wv_RL_147 : WV RL 147 RX11 yX11_read cX11_read 3 (some Jvm.ClassFile.FieldType.long) 2 := ⟨lwb_callV wd_1152 wd_1153 wd_1154 wd_95 wd_1155, rfl, by decide, by decide, by decide +kernel⟩
theorem wv_RL_150 : WV RL 150 RX12 yX12_read cX12_read 3 (some Jvm.ClassFile.FieldType.long) 2 := ⟨lwb_callV wd_1786 wd_1787 wd_1788 wd_105 wd_1789, rfl, by decide, by decide, by decide +kernel⟩
theorem wv_RL_151 : WV RL 151 RX11 yX11_shift cX11_shift 6 (some Jvm.ClassFile.FieldType.int) 5 := ⟨lwb_callV wd_1156 wd_1157 wd_1158 wd_95 wd_1159, rfl, by decide, by decide, by decide +kernel⟩
theorem wv_RL_155 : WV RL 155 RX12 yX12_shift cX12_shift 7 (some Jvm.ClassFile.FieldType.int) 5 := ⟨lwb_callV wd_1790 wd_1791 wd_1792 wd_105 wd_1793, rfl, by decide, by decide, by decide +kernel⟩
noncomputable def law_case (S : SS) (h : HH) (w : Int → Int) : Option (HH × SS) :=
  if ww (zand (w 0) 63) = 0 then ((x_hater S h (w 1) (w 2) (w 3)).bind fun q1 => ckX S q1.2.2 <| (m_hater q1.2.1 (w 1) (w 2) (w 3)).bind fun q3 => if ww q1.1 = ww q3.1 then (some (q3.2, q1.2.2)) else (none)) else (if ww (zand (w 0) 63) = 1 then ((x_of S h (w 1) (w 2)).bind fun q4 => (m_of q4.2 (w 1) (w 2)).bind fun q5 => if ww q4.1 = ww q5.1 then (some (q5.2, S)) else (none)) else (if ww (zand (w 0) 63) = 2 then ((x_hate h (w 1) (w 2) (w 3)).bind fun q6 => (m_hate q6.2 (w 1) (w 2) (w 3)).bind fun q7 => if ww q6.1 = ww q7.1 then (some (q7.2, S)) else (none)) else (if ww (zand (w 0) 63) = 3 then ((x_lead h (w 1) (w 2)).bind fun q8 => (m_lead q8.2 (w 1) (w 2)).bind fun q9 => if ww q8.1 = ww q9.1 then (some (q9.2, S)) else (none)) else (if ww (zand (w 0) 63) = 4 then (if ww (w 2) = 0 then ((x_leave h (w 1) 0).bind fun q10 => if ww (w 2) = 0 then ((m_leave q10.2 (w 1) 0).bind fun q11 => if ww q10.1 = ww q11.1 then (some (q11.2, S)) else (none)) else ((m_leave q10.2 (w 1) 1).bind fun q12 => if ww q10.1 = ww q12.1 then (some (q12.2, S)) else (none))) else ((x_leave h (w 1) 1).bind fun q13 => if ww (w 2) = 0 then ((m_leave q13.2 (w 1) 0).bind fun q14 => if ww q13.1 = ww q14.1 then (some (q14.2, S)) else (none)) else ((m_leave q13.2 (w 1) 1).bind fun q15 => if ww q13.1 = ww q15.1 then (some (q15.2, S)) else (none)))) else (if ww (zand (w 0) 63) = 5 then ((x_row S h (w 1) (w 2) (w 3)).bind fun q16 => (m_row q16.2 (w 1) (w 2) (w 3)).bind fun q17 => if ww q16.1 = ww q17.1 then (some (q17.2, S)) else (none)) else (if ww (zand (w 0) 63) = 6 then ((x_feed h (w 1)).bind fun q18 => (m_feed q18.2 (w 1)).bind fun q19 => if ww q18.1 = ww q19.1 then (some (q19.2, S)) else (none)) else (if ww (zand (w 0) 63) = 7 then ((x_orchard h).bind fun q20 => (m_orchard q20.2).bind fun q21 => if ww q20.1 = ww q21.1 then (some (q21.2, S)) else (none)) else (if ww (zand (w 0) 63) = 8 then ((x_told S h (w 1)).bind fun q22 => (m_told q22.2 (w 1)).bind fun q23 => if ww q22.1 = ww q23.1 then (some (q23.2, S)) else (none)) else (if ww (zand (w 0) 63) = 9 then ((x_pass S h (w 1)).bind fun q24 => (m_pass q24.2 (w 1)).bind fun q25 => if ww q24.1 = ww q25.1 then (some (q25.2, S)) else (none)) else (if ww (zand (w 0) 63) = 10 then ((x_on S h (w 1) (w 2)).bind fun q26 => (m_on q26.2 (w 1) (w 2)).bind fun q27 => if ww q26.1 = ww q27.1 then (some (q27.2, S)) else (none)) else (if ww (zand (w 0) 63) = 11 then ((x_ring S h (w 1)).bind fun q28 => (m_ring q28.2 (w 1)).bind fun q29 => if ww q28.1 = ww q29.1 then (some (q29.2, S)) else (none)) else (if ww (zand (w 0) 63) = 12 then ((x_turn S h (w 1) (w 2) (w 3)).bind fun q30 => (m_turn q30.2 (w 1) (w 2) (w 3)).bind fun q31 => if ww q30.1 = ww q31.1 then (some (q31.2, S)) else (none)) else (if ww (zand (w 0) 63) = 13 then (if ww (w 4) = 0 then ((x_see h (w 1) (w 2) (w 3) 0).bind fun q32 => if ww (w 4) = 0 then ((m_see q32.2 (w 1) (w 2) (w 3) 0).bind fun q33 => if ww q32.1 = ww q33.1 then (some (q33.2, S)) else (none)) else ((m_see q32.2 (w 1) (w 2) (w 3) 1).bind fun q34 => if ww q32.1 = ww q34.1 then (some (q34.2, S)) else (none))) else ((x_see h (w 1) (w 2) (w 3) 1).bind fun q35 => if ww (w 4) = 0 then ((m_see q35.2 (w 1) (w 2) (w 3) 0).bind fun q36 => if ww q35.1 = ww q36.1 then (some (q36.2, S)) else (none)) else ((m_see q35.2 (w 1) (w 2) (w 3) 1).bind fun q37 => if ww q35.1 = ww q37.1 then (some (q37.2, S)) else (none)))) else (if ww (zand (w 0) 63) = 14 then ((x_hates S h (w 1) (w 2) (w 3)).bind fun q38 => (m_hates q38.2 (w 1) (w 2) (w 3)).bind fun q39 => if ww q38.1 = ww q39.1 then (some (q39.2, S)) else (none)) else (if ww (zand (w 0) 63) = 15 then ((x_can S h (w 1) (w 2)).bind fun q40 => ckX S q40.2.2 <| (m_can q40.2.1 (w 1) (w 2)).bind fun q42 => if ww q40.1 = ww q42.1 then (some (q42.2, q40.2.2)) else (none)) else (if ww (zand (w 0) 63) = 16 then ((x_odds S h (w 1) (w 2)).bind fun q43 => (m_odds q43.2 (w 1) (w 2)).bind fun q44 => if ww (zlcmp q43.1 q44.1) = 0 then (some (q44.2, S)) else (none)) else (if ww (zand (w 0) 63) = 17 then ((x_mean h (w 1) (w 2)).bind fun q45 => (m_mean h (w 1) (w 2)).bind fun q46 => if ww (zlcmp q45 q46) = 0 then (some (h, S)) else (none)) else (if ww (zand (w 0) 63) = 18 then ((x_plan h (w 1) (w 2)).bind fun q47 => (m_plan q47.2 (w 1) (w 2)).bind fun q48 => if ww q47.1 = ww q48.1 then (some (q48.2, S)) else (none)) else (if ww (zand (w 0) 63) = 19 then ((x_ends S h (w 1)).bind fun q49 => (m_ends q49.2 (w 1)).bind fun q50 => if ww q49.1 = ww q50.1 then (some (q50.2, S)) else (none)) else (if ww (zand (w 0) 63) = 20 then ((x_book h (w 1) (w 2)).bind fun q51 => (m_book q51.2 (w 1) (w 2)).bind fun q52 => if ww q51.1 = ww q52.1 then (some (q52.2, S)) else (none)) else (if ww (zand (w 0) 63) = 21 then ((x_looked h).bind fun q53 => (m_looked h).bind fun q54 => if ww q53 = ww q54 then (some (h, S)) else (none)) else (if ww (zand (w 0) 63) = 22 then ((x_judge h (w 1) (w 2)).bind fun q55 => (m_judge h (w 1) (w 2)).bind fun q56 => if ww q55 = ww q56 then (some (h, S)) else (none)) else (if ww (zand (w 0) 63) = 23 then ((x_image S h).bind fun q57 => (m_image q57.2).bind fun q58 => if ww q57.1 = ww q58.1 then (some (q58.2, S)) else (none)) else (if ww (zand (w 0) 63) = 24 then ((x_undo S h).bind fun q59 => (m_undo q59.2).bind fun q60 => if ww q59.1 = ww q60.1 then (some (q60.2, S)) else (none)) else (if ww (zand (w 0) 63) = 25 then ((x_act S h (w 1) (w 2) (w 3)).bind fun q61 => ckX S q61.2.2 <| (m_act q61.2.1 (w 1) (w 2) (w 3)).bind fun q63 => if ww q61.1 = ww q63.1 then (some (q63.2, q61.2.2)) else (none)) else (if ww (zand (w 0) 63) = 26 then ((x_trace S h (w 1)).bind fun q64 => (m_trace h (w 1)).bind fun q65 => if ww q64 = ww q65 then (some (h, S)) else (none)) else (if ww (zand (w 0) 63) = 27 then ((x_taken S h (w 1) (w 2)).bind fun q66 => (m_taken h (w 1) (w 2)).bind fun q67 => if ww q66 = ww q67 then (some (h, S)) else (none)) else (if ww (zand (w 0) 63) = 28 then ((x_count S h (w 1)).bind fun q68 => if ww q68 = ww (m_count h (w 1)) then (some (h, S)) else (none)) else (if ww (zand (w 0) 63) = 29 then ((x_tape h (w 1) (w 2) (w 3)).bind fun q69 => (m_tape q69.2 (w 1) (w 2) (w 3)).bind fun q70 => if ww q69.1 = ww q70.1 then (some (q70.2, S)) else (none)) else (if ww (zand (w 0) 63) = 30 then ((x_item h (w 1) (w 2) (zlor (zlshl (zi2l (w 3)) 32) (zland (zi2l (w 4)) 4294967295))).bind fun q71 => (m_item q71.2 (w 1) (w 2) (zlor (zlshl (zi2l (w 3)) 32) (zland (zi2l (w 4)) 4294967295))).bind fun q72 => if ww q71.1 = ww q72.1 then (some (q72.2, S)) else (none)) else (if ww (zand (w 0) 63) = 31 then ((x_read h (w 1) (w 2)).bind fun q73 => (m_read h (w 1) (w 2)).bind fun q74 => if ww (zlcmp q73 q74) = 0 then (some (h, S)) else (none)) else (if ww (zand (w 0) 63) = 32 then ((x_shift h (w 1) (w 2) (w 3) (w 4) (w 5)).bind fun q75 => (m_shift q75.2 (w 1) (w 2) (w 3) (w 4) (w 5)).bind fun q76 => if ww q75.1 = ww q76.1 then (some (q76.2, S)) else (none)) else (some (h, S))))))))))))))))))))))))))))))))))
set_option maxHeartbeats 16000000 in
set_option maxRecDepth 100000 in
theorem w_law {D : va_G} {dT : ZT} {bs : Nat} {p : Program} {l : Launch} {e : Env} {s : State} {m : MethodId} {args : Array Value} {below : List Frame} {meth : Method} {c : Code} {cells slots : Nat} {Q : State → Prop} (C : Cx D dT bs RL cL_law 4 ret p s m args meth c) {b n : Nat} {xs : Nat → Int32} (hX : va_X b n xs s s.heap) (hbl : b < s.heap.size) (hbA : ¬ AA bs b) (hL : n ≤ 3072) {i : Int} (h0 : 0 ≤ i) (h6 : i + 6 ≤ n) {w : Int → Int} (hw : ∀ k : Int, w k = (xs (i + k).toNat).toInt) {h : HH} {S : SS} (hF : Fx S) {res : HH × SS} (hf : law_case S h w = some res) (hc : cells + 20 ≤ 600000) (hs : slots + 300 ≤ 7302250) (kk : V D dT bs 4 p l e room_1 s m args below meth c (cells + 20) (slots + 300) Q res.1 res.2 18 [(3, zI (i + 6)), (0, .ref b), (1, zP bs 0), (2, zP bs 193)] []) : V D dT bs 4 p l e room_1 s m args below meth c cells slots Q h S 27 [(3, zI i), (0, .ref b), (1, zP bs 0), (2, zP bs 193)] [] := by
  unfold law_case at hf
  refine r_aloadO_n (pc' := 28) (f4 := 0) (i := 0) C 1 rfl rfl dL_law_27 rfl ?_
  refine r_iload_n (pc' := 29) (f4 := 3) (i := 3) C 0 rfl rfl dL_law_28 rfl ?_
  refine r_sld0 (pc' := 30) C hX hbl hbA hL h0 h6 hw dL_law_29 rfl ?_
  refine r_bipush (pc' := 32) C rfl dL_law_30 rfl ?_
  refine r_iand (pc' := 33) C dL_law_32 rfl ?_
  by_cases cs0 : ww (zand (w 0) 63) = 0
  · rw [if_pos cs0] at hf
    refine r_tsIn (tgt := 180) C 0 cs0 dL_law_33 (by decide) (by decide) rfl (by decide) ?_
    refine r_aload_n (pc' := 181) (f4 := 1) (i := 1) C 2 rfl rfl dL_law_180 rfl ?_
    refine r_aloadO_n (pc' := 182) (f4 := 0) (i := 0) C 1 rfl rfl dL_law_181 rfl ?_
    refine r_iload_n (pc' := 183) (f4 := 3) (i := 3) C 0 rfl rfl dL_law_182 rfl ?_
    refine r_iconst (pc' := 184) C dL_law_183 rfl ?_
    refine r_iadd (pc' := 185) C dL_law_184 rfl ?_
    refine r_sld (pc' := 186) C hX hbl hbA hL 1 h0 h6 (by decide) hw dL_law_185 rfl ?_
    refine r_aloadO_n (pc' := 187) (f4 := 0) (i := 0) C 1 rfl rfl dL_law_186 rfl ?_
    refine r_iload_n (pc' := 188) (f4 := 3) (i := 3) C 0 rfl rfl dL_law_187 rfl ?_
    refine r_iconst (pc' := 189) C dL_law_188 rfl ?_
    refine r_iadd (pc' := 190) C dL_law_189 rfl ?_
    refine r_sld (pc' := 191) C hX hbl hbA hL 2 h0 h6 (by decide) hw dL_law_190 rfl ?_
    refine r_aloadO_n (pc' := 192) (f4 := 0) (i := 0) C 1 rfl rfl dL_law_191 rfl ?_
    refine r_iload_n (pc' := 193) (f4 := 3) (i := 3) C 0 rfl rfl dL_law_192 rfl ?_
    refine r_iconst (pc' := 194) C dL_law_193 rfl ?_
    refine r_iadd (pc' := 195) C dL_law_194 rfl ?_
    refine r_sld (pc' := 196) C hX hbl hbA hL 3 h0 h6 (by decide) hw dL_law_195 rfl ?_
    obtain ⟨q1, hq1, hf⟩ := bind_in hf
    refine r_callVD (n := 3) (ci := 11) (pc' := 199) C (t_x_hater hF hq1).toD rfl (K_0 hF) cl_11 wv_RL_13 ⟨Nat.le_of_ble_eq_true rfl, Nat.le_of_ble_eq_true rfl⟩ rfl rfl (Nat.le_of_ble_eq_true rfl) dL_law_196 rfl ⟨by show (_ : Nat) ≤ 600000; omega, by show (_ : Nat) ≤ 7302250; omega⟩ ?_
    obtain ⟨hx2, hf⟩ := ckX_in hf
    have hF := hF.ext hx2
    refine r_aload_n (pc' := 200) (f4 := 2) (i := 2) C 3 rfl rfl dL_law_199 rfl ?_
    refine r_aloadO_n (pc' := 201) (f4 := 0) (i := 0) C 1 rfl rfl dL_law_200 rfl ?_
    refine r_iload_n (pc' := 202) (f4 := 3) (i := 3) C 0 rfl rfl dL_law_201 rfl ?_
    refine r_iconst (pc' := 203) C dL_law_202 rfl ?_
    refine r_iadd (pc' := 204) C dL_law_203 rfl ?_
    refine r_sld (pc' := 205) C hX hbl hbA hL 1 h0 h6 (by decide) hw dL_law_204 rfl ?_
    refine r_aloadO_n (pc' := 206) (f4 := 0) (i := 0) C 1 rfl rfl dL_law_205 rfl ?_
    refine r_iload_n (pc' := 207) (f4 := 3) (i := 3) C 0 rfl rfl dL_law_206 rfl ?_
    refine r_iconst (pc' := 208) C dL_law_207 rfl ?_
    refine r_iadd (pc' := 209) C dL_law_208 rfl ?_
    refine r_sld (pc' := 210) C hX hbl hbA hL 2 h0 h6 (by decide) hw dL_law_209 rfl ?_
    refine r_aloadO_n (pc' := 211) (f4 := 0) (i := 0) C 1 rfl rfl dL_law_210 rfl ?_
    refine r_iload_n (pc' := 212) (f4 := 3) (i := 3) C 0 rfl rfl dL_law_211 rfl ?_
    refine r_iconst (pc' := 213) C dL_law_212 rfl ?_
    refine r_iadd (pc' := 214) C dL_law_213 rfl ?_
    refine r_sld (pc' := 215) C hX hbl hbA hL 3 h0 h6 (by decide) hw dL_law_214 rfl ?_
    obtain ⟨q3, hq3, hf⟩ := bind_in hf
    refine q_callV (pc' := 218) C (t_m_hater hF hq3) rfl (K_193 hF) cl_12 wv_RL_17 ⟨Nat.le_of_ble_eq_true rfl, Nat.le_of_ble_eq_true rfl⟩ rfl rfl (Nat.le_of_ble_eq_true rfl) dL_law_215 rfl ⟨by show (_ : Nat) ≤ 600000; omega, by show (_ : Nat) ≤ 7302250; omega⟩ ?_
    refine r_icmp_eq (pc' := 221) (tgt := 1314) C rfl rfl hf dL_law_218 (by decide) rfl (fun hf => ?_) (fun hf => ?_)
    · cases hf
      refine r_iinc (pc' := 1317) (i := 3) (L' := [(3, zI (i + 6)), (0, .ref b), (1, zP bs 0), (2, zP bs 193)]) C 0 rfl (by decide) rfl dL_law_1314 rfl ?_
      refine r_goto (tgt := 18) C dL_law_1317 (by decide) ?_
      exact V.wide (k := cells + 20) (n := slots + 300) (by omega) (by omega) kk
    · refine r_iconst (pc' := 222) C dL_law_221 rfl ?_
      cases hf
  · rw [if_neg cs0] at hf
    by_cases cs1 : ww (zand (w 0) 63) = 1
    · rw [if_pos cs1] at hf
      refine r_tsIn (tgt := 223) C 1 cs1 dL_law_33 (by decide) (by decide) rfl (by decide) ?_
      refine r_aload_n (pc' := 224) (f4 := 1) (i := 1) C 2 rfl rfl dL_law_223 rfl ?_
      refine r_aloadO_n (pc' := 225) (f4 := 0) (i := 0) C 1 rfl rfl dL_law_224 rfl ?_
      refine r_iload_n (pc' := 226) (f4 := 3) (i := 3) C 0 rfl rfl dL_law_225 rfl ?_
      refine r_iconst (pc' := 227) C dL_law_226 rfl ?_
      refine r_iadd (pc' := 228) C dL_law_227 rfl ?_
      refine r_sld (pc' := 229) C hX hbl hbA hL 1 h0 h6 (by decide) hw dL_law_228 rfl ?_
      refine r_aloadO_n (pc' := 230) (f4 := 0) (i := 0) C 1 rfl rfl dL_law_229 rfl ?_
      refine r_iload_n (pc' := 231) (f4 := 3) (i := 3) C 0 rfl rfl dL_law_230 rfl ?_
      refine r_iconst (pc' := 232) C dL_law_231 rfl ?_
      refine r_iadd (pc' := 233) C dL_law_232 rfl ?_
      refine r_sld (pc' := 234) C hX hbl hbA hL 2 h0 h6 (by decide) hw dL_law_233 rfl ?_
      obtain ⟨q4, hq4, hf⟩ := bind_in hf
      refine q_callV (pc' := 237) C (t_x_of hF hq4) rfl (K_0 hF) cl_11 wv_RL_18 ⟨Nat.le_of_ble_eq_true rfl, Nat.le_of_ble_eq_true rfl⟩ rfl rfl (Nat.le_of_ble_eq_true rfl) dL_law_234 rfl ⟨by show (_ : Nat) ≤ 600000; omega, by show (_ : Nat) ≤ 7302250; omega⟩ ?_
      refine r_aload_n (pc' := 238) (f4 := 2) (i := 2) C 3 rfl rfl dL_law_237 rfl ?_
      refine r_aloadO_n (pc' := 239) (f4 := 0) (i := 0) C 1 rfl rfl dL_law_238 rfl ?_
      refine r_iload_n (pc' := 240) (f4 := 3) (i := 3) C 0 rfl rfl dL_law_239 rfl ?_
      refine r_iconst (pc' := 241) C dL_law_240 rfl ?_
      refine r_iadd (pc' := 242) C dL_law_241 rfl ?_
      refine r_sld (pc' := 243) C hX hbl hbA hL 1 h0 h6 (by decide) hw dL_law_242 rfl ?_
      refine r_aloadO_n (pc' := 244) (f4 := 0) (i := 0) C 1 rfl rfl dL_law_243 rfl ?_
      refine r_iload_n (pc' := 245) (f4 := 3) (i := 3) C 0 rfl rfl dL_law_244 rfl ?_
      refine r_iconst (pc' := 246) C dL_law_245 rfl ?_
      refine r_iadd (pc' := 247) C dL_law_246 rfl ?_
      refine r_sld (pc' := 248) C hX hbl hbA hL 2 h0 h6 (by decide) hw dL_law_247 rfl ?_
      obtain ⟨q5, hq5, hf⟩ := bind_in hf
      refine q_callV (pc' := 251) C (t_m_of hF hq5) rfl (K_193 hF) cl_12 wv_RL_22 ⟨Nat.le_of_ble_eq_true rfl, Nat.le_of_ble_eq_true rfl⟩ rfl rfl (Nat.le_of_ble_eq_true rfl) dL_law_248 rfl ⟨by show (_ : Nat) ≤ 600000; omega, by show (_ : Nat) ≤ 7302250; omega⟩ ?_
      refine r_icmp_eq (pc' := 254) (tgt := 1314) C rfl rfl hf dL_law_251 (by decide) rfl (fun hf => ?_) (fun hf => ?_)
      · cases hf
        refine r_iinc (pc' := 1317) (i := 3) (L' := [(3, zI (i + 6)), (0, .ref b), (1, zP bs 0), (2, zP bs 193)]) C 0 rfl (by decide) rfl dL_law_1314 rfl ?_
        refine r_goto (tgt := 18) C dL_law_1317 (by decide) ?_
        exact V.wide (k := cells + 20) (n := slots + 300) (by omega) (by omega) kk
      · refine r_iconst (pc' := 255) C dL_law_254 rfl ?_
        cases hf
    · rw [if_neg cs1] at hf
      by_cases cs2 : ww (zand (w 0) 63) = 2
      · rw [if_pos cs2] at hf
        refine r_tsIn (tgt := 256) C 2 cs2 dL_law_33 (by decide) (by decide) rfl (by decide) ?_
        refine r_aload_n (pc' := 257) (f4 := 1) (i := 1) C 2 rfl rfl dL_law_256 rfl ?_
        refine r_aloadO_n (pc' := 258) (f4 := 0) (i := 0) C 1 rfl rfl dL_law_257 rfl ?_
        refine r_iload_n (pc' := 259) (f4 := 3) (i := 3) C 0 rfl rfl dL_law_258 rfl ?_
        refine r_iconst (pc' := 260) C dL_law_259 rfl ?_
        refine r_iadd (pc' := 261) C dL_law_260 rfl ?_
        refine r_sld (pc' := 262) C hX hbl hbA hL 1 h0 h6 (by decide) hw dL_law_261 rfl ?_
        refine r_aloadO_n (pc' := 263) (f4 := 0) (i := 0) C 1 rfl rfl dL_law_262 rfl ?_
        refine r_iload_n (pc' := 264) (f4 := 3) (i := 3) C 0 rfl rfl dL_law_263 rfl ?_
        refine r_iconst (pc' := 265) C dL_law_264 rfl ?_
        refine r_iadd (pc' := 266) C dL_law_265 rfl ?_
        refine r_sld (pc' := 267) C hX hbl hbA hL 2 h0 h6 (by decide) hw dL_law_266 rfl ?_
        refine r_aloadO_n (pc' := 268) (f4 := 0) (i := 0) C 1 rfl rfl dL_law_267 rfl ?_
        refine r_iload_n (pc' := 269) (f4 := 3) (i := 3) C 0 rfl rfl dL_law_268 rfl ?_
        refine r_iconst (pc' := 270) C dL_law_269 rfl ?_
        refine r_iadd (pc' := 271) C dL_law_270 rfl ?_
        refine r_sld (pc' := 272) C hX hbl hbA hL 3 h0 h6 (by decide) hw dL_law_271 rfl ?_
        obtain ⟨q6, hq6, hf⟩ := bind_in hf
        refine q_callV (pc' := 275) C (t_x_hate hF hq6) rfl (K_0 hF) cl_11 wv_RL_23 ⟨Nat.le_of_ble_eq_true rfl, Nat.le_of_ble_eq_true rfl⟩ rfl rfl (Nat.le_of_ble_eq_true rfl) dL_law_272 rfl ⟨by show (_ : Nat) ≤ 600000; omega, by show (_ : Nat) ≤ 7302250; omega⟩ ?_
        refine r_aload_n (pc' := 276) (f4 := 2) (i := 2) C 3 rfl rfl dL_law_275 rfl ?_
        refine r_aloadO_n (pc' := 277) (f4 := 0) (i := 0) C 1 rfl rfl dL_law_276 rfl ?_
        refine r_iload_n (pc' := 278) (f4 := 3) (i := 3) C 0 rfl rfl dL_law_277 rfl ?_
        refine r_iconst (pc' := 279) C dL_law_278 rfl ?_
        refine r_iadd (pc' := 280) C dL_law_279 rfl ?_
        refine r_sld (pc' := 281) C hX hbl hbA hL 1 h0 h6 (by decide) hw dL_law_280 rfl ?_
        refine r_aloadO_n (pc' := 282) (f4 := 0) (i := 0) C 1 rfl rfl dL_law_281 rfl ?_
        refine r_iload_n (pc' := 283) (f4 := 3) (i := 3) C 0 rfl rfl dL_law_282 rfl ?_
        refine r_iconst (pc' := 284) C dL_law_283 rfl ?_
        refine r_iadd (pc' := 285) C dL_law_284 rfl ?_
        refine r_sld (pc' := 286) C hX hbl hbA hL 2 h0 h6 (by decide) hw dL_law_285 rfl ?_
        refine r_aloadO_n (pc' := 287) (f4 := 0) (i := 0) C 1 rfl rfl dL_law_286 rfl ?_
        refine r_iload_n (pc' := 288) (f4 := 3) (i := 3) C 0 rfl rfl dL_law_287 rfl ?_
        refine r_iconst (pc' := 289) C dL_law_288 rfl ?_
        refine r_iadd (pc' := 290) C dL_law_289 rfl ?_
        refine r_sld (pc' := 291) C hX hbl hbA hL 3 h0 h6 (by decide) hw dL_law_290 rfl ?_
        obtain ⟨q7, hq7, hf⟩ := bind_in hf
        refine q_callV (pc' := 294) C (t_m_hate hF hq7) rfl (K_193 hF) cl_12 wv_RL_26 ⟨Nat.le_of_ble_eq_true rfl, Nat.le_of_ble_eq_true rfl⟩ rfl rfl (Nat.le_of_ble_eq_true rfl) dL_law_291 rfl ⟨by show (_ : Nat) ≤ 600000; omega, by show (_ : Nat) ≤ 7302250; omega⟩ ?_
        refine r_icmp_eq (pc' := 297) (tgt := 1314) C rfl rfl hf dL_law_294 (by decide) rfl (fun hf => ?_) (fun hf => ?_)
        · cases hf
          refine r_iinc (pc' := 1317) (i := 3) (L' := [(3, zI (i + 6)), (0, .ref b), (1, zP bs 0), (2, zP bs 193)]) C 0 rfl (by decide) rfl dL_law_1314 rfl ?_
          refine r_goto (tgt := 18) C dL_law_1317 (by decide) ?_
          exact V.wide (k := cells + 20) (n := slots + 300) (by omega) (by omega) kk
        · refine r_iconst (pc' := 298) C dL_law_297 rfl ?_
          cases hf
      · rw [if_neg cs2] at hf
        by_cases cs3 : ww (zand (w 0) 63) = 3
        · rw [if_pos cs3] at hf
          refine r_tsIn (tgt := 299) C 3 cs3 dL_law_33 (by decide) (by decide) rfl (by decide) ?_
          refine r_aload_n (pc' := 300) (f4 := 1) (i := 1) C 2 rfl rfl dL_law_299 rfl ?_
          refine r_aloadO_n (pc' := 301) (f4 := 0) (i := 0) C 1 rfl rfl dL_law_300 rfl ?_
          refine r_iload_n (pc' := 302) (f4 := 3) (i := 3) C 0 rfl rfl dL_law_301 rfl ?_
          refine r_iconst (pc' := 303) C dL_law_302 rfl ?_
          refine r_iadd (pc' := 304) C dL_law_303 rfl ?_
          refine r_sld (pc' := 305) C hX hbl hbA hL 1 h0 h6 (by decide) hw dL_law_304 rfl ?_
          refine r_aloadO_n (pc' := 306) (f4 := 0) (i := 0) C 1 rfl rfl dL_law_305 rfl ?_
          refine r_iload_n (pc' := 307) (f4 := 3) (i := 3) C 0 rfl rfl dL_law_306 rfl ?_
          refine r_iconst (pc' := 308) C dL_law_307 rfl ?_
          refine r_iadd (pc' := 309) C dL_law_308 rfl ?_
          refine r_sld (pc' := 310) C hX hbl hbA hL 2 h0 h6 (by decide) hw dL_law_309 rfl ?_
          obtain ⟨q8, hq8, hf⟩ := bind_in hf
          refine q_callV (pc' := 313) C (t_x_lead hF hq8) rfl (K_0 hF) cl_11 wv_RL_27 ⟨Nat.le_of_ble_eq_true rfl, Nat.le_of_ble_eq_true rfl⟩ rfl rfl (Nat.le_of_ble_eq_true rfl) dL_law_310 rfl ⟨by show (_ : Nat) ≤ 600000; omega, by show (_ : Nat) ≤ 7302250; omega⟩ ?_
          refine r_aload_n (pc' := 314) (f4 := 2) (i := 2) C 3 rfl rfl dL_law_313 rfl ?_
          refine r_aloadO_n (pc' := 315) (f4 := 0) (i := 0) C 1 rfl rfl dL_law_314 rfl ?_
          refine r_iload_n (pc' := 316) (f4 := 3) (i := 3) C 0 rfl rfl dL_law_315 rfl ?_
          refine r_iconst (pc' := 317) C dL_law_316 rfl ?_
          refine r_iadd (pc' := 318) C dL_law_317 rfl ?_
          refine r_sld (pc' := 319) C hX hbl hbA hL 1 h0 h6 (by decide) hw dL_law_318 rfl ?_
          refine r_aloadO_n (pc' := 320) (f4 := 0) (i := 0) C 1 rfl rfl dL_law_319 rfl ?_
          refine r_iload_n (pc' := 321) (f4 := 3) (i := 3) C 0 rfl rfl dL_law_320 rfl ?_
          refine r_iconst (pc' := 322) C dL_law_321 rfl ?_
          refine r_iadd (pc' := 323) C dL_law_322 rfl ?_
          refine r_sld (pc' := 324) C hX hbl hbA hL 2 h0 h6 (by decide) hw dL_law_323 rfl ?_
          obtain ⟨q9, hq9, hf⟩ := bind_in hf
          refine q_callV (pc' := 327) C (t_m_lead hF hq9) rfl (K_193 hF) cl_12 wv_RL_30 ⟨Nat.le_of_ble_eq_true rfl, Nat.le_of_ble_eq_true rfl⟩ rfl rfl (Nat.le_of_ble_eq_true rfl) dL_law_324 rfl ⟨by show (_ : Nat) ≤ 600000; omega, by show (_ : Nat) ≤ 7302250; omega⟩ ?_
          refine r_icmp_eq (pc' := 330) (tgt := 1314) C rfl rfl hf dL_law_327 (by decide) rfl (fun hf => ?_) (fun hf => ?_)
          · cases hf
            refine r_iinc (pc' := 1317) (i := 3) (L' := [(3, zI (i + 6)), (0, .ref b), (1, zP bs 0), (2, zP bs 193)]) C 0 rfl (by decide) rfl dL_law_1314 rfl ?_
            refine r_goto (tgt := 18) C dL_law_1317 (by decide) ?_
            exact V.wide (k := cells + 20) (n := slots + 300) (by omega) (by omega) kk
          · refine r_iconst (pc' := 331) C dL_law_330 rfl ?_
            cases hf
        · rw [if_neg cs3] at hf
          by_cases cs4 : ww (zand (w 0) 63) = 4
          · rw [if_pos cs4] at hf
            refine r_tsIn (tgt := 332) C 4 cs4 dL_law_33 (by decide) (by decide) rfl (by decide) ?_
            refine r_aload_n (pc' := 333) (f4 := 1) (i := 1) C 2 rfl rfl dL_law_332 rfl ?_
            refine r_aloadO_n (pc' := 334) (f4 := 0) (i := 0) C 1 rfl rfl dL_law_333 rfl ?_
            refine r_iload_n (pc' := 335) (f4 := 3) (i := 3) C 0 rfl rfl dL_law_334 rfl ?_
            refine r_iconst (pc' := 336) C dL_law_335 rfl ?_
            refine r_iadd (pc' := 337) C dL_law_336 rfl ?_
            refine r_sld (pc' := 338) C hX hbl hbA hL 1 h0 h6 (by decide) hw dL_law_337 rfl ?_
            refine r_aloadO_n (pc' := 339) (f4 := 0) (i := 0) C 1 rfl rfl dL_law_338 rfl ?_
            refine r_iload_n (pc' := 340) (f4 := 3) (i := 3) C 0 rfl rfl dL_law_339 rfl ?_
            refine r_iconst (pc' := 341) C dL_law_340 rfl ?_
            refine r_iadd (pc' := 342) C dL_law_341 rfl ?_
            refine r_sld (pc' := 343) C hX hbl hbA hL 2 h0 h6 (by decide) hw dL_law_342 rfl ?_
            refine r_if_eq (pc' := 346) (tgt := 350) C rfl hf dL_law_343 (by decide) rfl (fun hf => ?_) (fun hf => ?_)
            · refine r_iconst (pc' := 351) C dL_law_350 rfl ?_
              obtain ⟨q10, hq10, hf⟩ := bind_in hf
              refine q_callV (pc' := 354) C (t_x_leave hF hq10) rfl (K_0 hF) cl_11 wv_RL_31 ⟨Nat.le_of_ble_eq_true rfl, Nat.le_of_ble_eq_true rfl⟩ rfl rfl (Nat.le_of_ble_eq_true rfl) dL_law_351 rfl ⟨by show (_ : Nat) ≤ 600000; omega, by show (_ : Nat) ≤ 7302250; omega⟩ ?_
              refine r_aload_n (pc' := 355) (f4 := 2) (i := 2) C 3 rfl rfl dL_law_354 rfl ?_
              refine r_aloadO_n (pc' := 356) (f4 := 0) (i := 0) C 1 rfl rfl dL_law_355 rfl ?_
              refine r_iload_n (pc' := 357) (f4 := 3) (i := 3) C 0 rfl rfl dL_law_356 rfl ?_
              refine r_iconst (pc' := 358) C dL_law_357 rfl ?_
              refine r_iadd (pc' := 359) C dL_law_358 rfl ?_
              refine r_sld (pc' := 360) C hX hbl hbA hL 1 h0 h6 (by decide) hw dL_law_359 rfl ?_
              refine r_aloadO_n (pc' := 361) (f4 := 0) (i := 0) C 1 rfl rfl dL_law_360 rfl ?_
              refine r_iload_n (pc' := 362) (f4 := 3) (i := 3) C 0 rfl rfl dL_law_361 rfl ?_
              refine r_iconst (pc' := 363) C dL_law_362 rfl ?_
              refine r_iadd (pc' := 364) C dL_law_363 rfl ?_
              refine r_sld (pc' := 365) C hX hbl hbA hL 2 h0 h6 (by decide) hw dL_law_364 rfl ?_
              refine r_if_eq (pc' := 368) (tgt := 372) C rfl hf dL_law_365 (by decide) rfl (fun hf => ?_) (fun hf => ?_)
              · refine r_iconst (pc' := 373) C dL_law_372 rfl ?_
                obtain ⟨q11, hq11, hf⟩ := bind_in hf
                refine q_callV (pc' := 376) C (t_m_leave hF hq11) rfl (K_193 hF) cl_12 wv_RL_35 ⟨Nat.le_of_ble_eq_true rfl, Nat.le_of_ble_eq_true rfl⟩ rfl rfl (Nat.le_of_ble_eq_true rfl) dL_law_373 rfl ⟨by show (_ : Nat) ≤ 600000; omega, by show (_ : Nat) ≤ 7302250; omega⟩ ?_
                refine r_icmp_eq (pc' := 379) (tgt := 1314) C rfl rfl hf dL_law_376 (by decide) rfl (fun hf => ?_) (fun hf => ?_)
                · cases hf
                  refine r_iinc (pc' := 1317) (i := 3) (L' := [(3, zI (i + 6)), (0, .ref b), (1, zP bs 0), (2, zP bs 193)]) C 0 rfl (by decide) rfl dL_law_1314 rfl ?_
                  refine r_goto (tgt := 18) C dL_law_1317 (by decide) ?_
                  exact V.wide (k := cells + 20) (n := slots + 300) (by omega) (by omega) kk
                · refine r_iconst (pc' := 380) C dL_law_379 rfl ?_
                  cases hf
              · refine r_iconst (pc' := 369) C dL_law_368 rfl ?_
                refine r_goto (tgt := 373) C dL_law_369 (by decide) ?_
                obtain ⟨q12, hq12, hf⟩ := bind_in hf
                refine q_callV (pc' := 376) C (t_m_leave hF hq12) rfl (K_193 hF) cl_12 wv_RL_35 ⟨Nat.le_of_ble_eq_true rfl, Nat.le_of_ble_eq_true rfl⟩ rfl rfl (Nat.le_of_ble_eq_true rfl) dL_law_373 rfl ⟨by show (_ : Nat) ≤ 600000; omega, by show (_ : Nat) ≤ 7302250; omega⟩ ?_
                refine r_icmp_eq (pc' := 379) (tgt := 1314) C rfl rfl hf dL_law_376 (by decide) rfl (fun hf => ?_) (fun hf => ?_)
                · cases hf
                  refine r_iinc (pc' := 1317) (i := 3) (L' := [(3, zI (i + 6)), (0, .ref b), (1, zP bs 0), (2, zP bs 193)]) C 0 rfl (by decide) rfl dL_law_1314 rfl ?_
                  refine r_goto (tgt := 18) C dL_law_1317 (by decide) ?_
                  exact V.wide (k := cells + 20) (n := slots + 300) (by omega) (by omega) kk
                · refine r_iconst (pc' := 380) C dL_law_379 rfl ?_
                  cases hf
            · refine r_iconst (pc' := 347) C dL_law_346 rfl ?_
              refine r_goto (tgt := 351) C dL_law_347 (by decide) ?_
              obtain ⟨q13, hq13, hf⟩ := bind_in hf
              refine q_callV (pc' := 354) C (t_x_leave hF hq13) rfl (K_0 hF) cl_11 wv_RL_31 ⟨Nat.le_of_ble_eq_true rfl, Nat.le_of_ble_eq_true rfl⟩ rfl rfl (Nat.le_of_ble_eq_true rfl) dL_law_351 rfl ⟨by show (_ : Nat) ≤ 600000; omega, by show (_ : Nat) ≤ 7302250; omega⟩ ?_
              refine r_aload_n (pc' := 355) (f4 := 2) (i := 2) C 3 rfl rfl dL_law_354 rfl ?_
              refine r_aloadO_n (pc' := 356) (f4 := 0) (i := 0) C 1 rfl rfl dL_law_355 rfl ?_
              refine r_iload_n (pc' := 357) (f4 := 3) (i := 3) C 0 rfl rfl dL_law_356 rfl ?_
              refine r_iconst (pc' := 358) C dL_law_357 rfl ?_
              refine r_iadd (pc' := 359) C dL_law_358 rfl ?_
              refine r_sld (pc' := 360) C hX hbl hbA hL 1 h0 h6 (by decide) hw dL_law_359 rfl ?_
              refine r_aloadO_n (pc' := 361) (f4 := 0) (i := 0) C 1 rfl rfl dL_law_360 rfl ?_
              refine r_iload_n (pc' := 362) (f4 := 3) (i := 3) C 0 rfl rfl dL_law_361 rfl ?_
              refine r_iconst (pc' := 363) C dL_law_362 rfl ?_
              refine r_iadd (pc' := 364) C dL_law_363 rfl ?_
              refine r_sld (pc' := 365) C hX hbl hbA hL 2 h0 h6 (by decide) hw dL_law_364 rfl ?_
              refine r_if_eq (pc' := 368) (tgt := 372) C rfl hf dL_law_365 (by decide) rfl (fun hf => ?_) (fun hf => ?_)
              · refine r_iconst (pc' := 373) C dL_law_372 rfl ?_
                obtain ⟨q14, hq14, hf⟩ := bind_in hf
                refine q_callV (pc' := 376) C (t_m_leave hF hq14) rfl (K_193 hF) cl_12 wv_RL_35 ⟨Nat.le_of_ble_eq_true rfl, Nat.le_of_ble_eq_true rfl⟩ rfl rfl (Nat.le_of_ble_eq_true rfl) dL_law_373 rfl ⟨by show (_ : Nat) ≤ 600000; omega, by show (_ : Nat) ≤ 7302250; omega⟩ ?_
                refine r_icmp_eq (pc' := 379) (tgt := 1314) C rfl rfl hf dL_law_376 (by decide) rfl (fun hf => ?_) (fun hf => ?_)
                · cases hf
                  refine r_iinc (pc' := 1317) (i := 3) (L' := [(3, zI (i + 6)), (0, .ref b), (1, zP bs 0), (2, zP bs 193)]) C 0 rfl (by decide) rfl dL_law_1314 rfl ?_
                  refine r_goto (tgt := 18) C dL_law_1317 (by decide) ?_
                  exact V.wide (k := cells + 20) (n := slots + 300) (by omega) (by omega) kk
                · refine r_iconst (pc' := 380) C dL_law_379 rfl ?_
                  cases hf
              · refine r_iconst (pc' := 369) C dL_law_368 rfl ?_
                refine r_goto (tgt := 373) C dL_law_369 (by decide) ?_
                obtain ⟨q15, hq15, hf⟩ := bind_in hf
                refine q_callV (pc' := 376) C (t_m_leave hF hq15) rfl (K_193 hF) cl_12 wv_RL_35 ⟨Nat.le_of_ble_eq_true rfl, Nat.le_of_ble_eq_true rfl⟩ rfl rfl (Nat.le_of_ble_eq_true rfl) dL_law_373 rfl ⟨by show (_ : Nat) ≤ 600000; omega, by show (_ : Nat) ≤ 7302250; omega⟩ ?_
                refine r_icmp_eq (pc' := 379) (tgt := 1314) C rfl rfl hf dL_law_376 (by decide) rfl (fun hf => ?_) (fun hf => ?_)
                · cases hf
                  refine r_iinc (pc' := 1317) (i := 3) (L' := [(3, zI (i + 6)), (0, .ref b), (1, zP bs 0), (2, zP bs 193)]) C 0 rfl (by decide) rfl dL_law_1314 rfl ?_
                  refine r_goto (tgt := 18) C dL_law_1317 (by decide) ?_
                  exact V.wide (k := cells + 20) (n := slots + 300) (by omega) (by omega) kk
                · refine r_iconst (pc' := 380) C dL_law_379 rfl ?_
                  cases hf
          · rw [if_neg cs4] at hf
            by_cases cs5 : ww (zand (w 0) 63) = 5
            · rw [if_pos cs5] at hf
              refine r_tsIn (tgt := 381) C 5 cs5 dL_law_33 (by decide) (by decide) rfl (by decide) ?_
              refine r_aload_n (pc' := 382) (f4 := 1) (i := 1) C 2 rfl rfl dL_law_381 rfl ?_
              refine r_aloadO_n (pc' := 383) (f4 := 0) (i := 0) C 1 rfl rfl dL_law_382 rfl ?_
              refine r_iload_n (pc' := 384) (f4 := 3) (i := 3) C 0 rfl rfl dL_law_383 rfl ?_
              refine r_iconst (pc' := 385) C dL_law_384 rfl ?_
              refine r_iadd (pc' := 386) C dL_law_385 rfl ?_
              refine r_sld (pc' := 387) C hX hbl hbA hL 1 h0 h6 (by decide) hw dL_law_386 rfl ?_
              refine r_aloadO_n (pc' := 388) (f4 := 0) (i := 0) C 1 rfl rfl dL_law_387 rfl ?_
              refine r_iload_n (pc' := 389) (f4 := 3) (i := 3) C 0 rfl rfl dL_law_388 rfl ?_
              refine r_iconst (pc' := 390) C dL_law_389 rfl ?_
              refine r_iadd (pc' := 391) C dL_law_390 rfl ?_
              refine r_sld (pc' := 392) C hX hbl hbA hL 2 h0 h6 (by decide) hw dL_law_391 rfl ?_
              refine r_aloadO_n (pc' := 393) (f4 := 0) (i := 0) C 1 rfl rfl dL_law_392 rfl ?_
              refine r_iload_n (pc' := 394) (f4 := 3) (i := 3) C 0 rfl rfl dL_law_393 rfl ?_
              refine r_iconst (pc' := 395) C dL_law_394 rfl ?_
              refine r_iadd (pc' := 396) C dL_law_395 rfl ?_
              refine r_sld (pc' := 397) C hX hbl hbA hL 3 h0 h6 (by decide) hw dL_law_396 rfl ?_
              obtain ⟨q16, hq16, hf⟩ := bind_in hf
              refine q_callV (pc' := 400) C (t_x_row hF hq16) rfl (K_0 hF) cl_11 wv_RL_36 ⟨Nat.le_of_ble_eq_true rfl, Nat.le_of_ble_eq_true rfl⟩ rfl rfl (Nat.le_of_ble_eq_true rfl) dL_law_397 rfl ⟨by show (_ : Nat) ≤ 600000; omega, by show (_ : Nat) ≤ 7302250; omega⟩ ?_
              refine r_aload_n (pc' := 401) (f4 := 2) (i := 2) C 3 rfl rfl dL_law_400 rfl ?_
              refine r_aloadO_n (pc' := 402) (f4 := 0) (i := 0) C 1 rfl rfl dL_law_401 rfl ?_
              refine r_iload_n (pc' := 403) (f4 := 3) (i := 3) C 0 rfl rfl dL_law_402 rfl ?_
              refine r_iconst (pc' := 404) C dL_law_403 rfl ?_
              refine r_iadd (pc' := 405) C dL_law_404 rfl ?_
              refine r_sld (pc' := 406) C hX hbl hbA hL 1 h0 h6 (by decide) hw dL_law_405 rfl ?_
              refine r_aloadO_n (pc' := 407) (f4 := 0) (i := 0) C 1 rfl rfl dL_law_406 rfl ?_
              refine r_iload_n (pc' := 408) (f4 := 3) (i := 3) C 0 rfl rfl dL_law_407 rfl ?_
              refine r_iconst (pc' := 409) C dL_law_408 rfl ?_
              refine r_iadd (pc' := 410) C dL_law_409 rfl ?_
              refine r_sld (pc' := 411) C hX hbl hbA hL 2 h0 h6 (by decide) hw dL_law_410 rfl ?_
              refine r_aloadO_n (pc' := 412) (f4 := 0) (i := 0) C 1 rfl rfl dL_law_411 rfl ?_
              refine r_iload_n (pc' := 413) (f4 := 3) (i := 3) C 0 rfl rfl dL_law_412 rfl ?_
              refine r_iconst (pc' := 414) C dL_law_413 rfl ?_
              refine r_iadd (pc' := 415) C dL_law_414 rfl ?_
              refine r_sld (pc' := 416) C hX hbl hbA hL 3 h0 h6 (by decide) hw dL_law_415 rfl ?_
              obtain ⟨q17, hq17, hf⟩ := bind_in hf
              refine q_callV (pc' := 419) C (t_m_row hF hq17) rfl (K_193 hF) cl_12 wv_RL_39 ⟨Nat.le_of_ble_eq_true rfl, Nat.le_of_ble_eq_true rfl⟩ rfl rfl (Nat.le_of_ble_eq_true rfl) dL_law_416 rfl ⟨by show (_ : Nat) ≤ 600000; omega, by show (_ : Nat) ≤ 7302250; omega⟩ ?_
              refine r_icmp_eq (pc' := 422) (tgt := 1314) C rfl rfl hf dL_law_419 (by decide) rfl (fun hf => ?_) (fun hf => ?_)
              · cases hf
                refine r_iinc (pc' := 1317) (i := 3) (L' := [(3, zI (i + 6)), (0, .ref b), (1, zP bs 0), (2, zP bs 193)]) C 0 rfl (by decide) rfl dL_law_1314 rfl ?_
                refine r_goto (tgt := 18) C dL_law_1317 (by decide) ?_
                exact V.wide (k := cells + 20) (n := slots + 300) (by omega) (by omega) kk
              · refine r_iconst (pc' := 423) C dL_law_422 rfl ?_
                cases hf
            · rw [if_neg cs5] at hf
              by_cases cs6 : ww (zand (w 0) 63) = 6
              · rw [if_pos cs6] at hf
                refine r_tsIn (tgt := 424) C 6 cs6 dL_law_33 (by decide) (by decide) rfl (by decide) ?_
                refine r_aload_n (pc' := 425) (f4 := 1) (i := 1) C 2 rfl rfl dL_law_424 rfl ?_
                refine r_aloadO_n (pc' := 426) (f4 := 0) (i := 0) C 1 rfl rfl dL_law_425 rfl ?_
                refine r_iload_n (pc' := 427) (f4 := 3) (i := 3) C 0 rfl rfl dL_law_426 rfl ?_
                refine r_iconst (pc' := 428) C dL_law_427 rfl ?_
                refine r_iadd (pc' := 429) C dL_law_428 rfl ?_
                refine r_sld (pc' := 430) C hX hbl hbA hL 1 h0 h6 (by decide) hw dL_law_429 rfl ?_
                obtain ⟨q18, hq18, hf⟩ := bind_in hf
                refine q_callV (pc' := 433) C (t_x_feed hF hq18) rfl (K_0 hF) cl_11 wv_RL_40 ⟨Nat.le_of_ble_eq_true rfl, Nat.le_of_ble_eq_true rfl⟩ rfl rfl (Nat.le_of_ble_eq_true rfl) dL_law_430 rfl ⟨by show (_ : Nat) ≤ 600000; omega, by show (_ : Nat) ≤ 7302250; omega⟩ ?_
                refine r_aload_n (pc' := 434) (f4 := 2) (i := 2) C 3 rfl rfl dL_law_433 rfl ?_
                refine r_aloadO_n (pc' := 435) (f4 := 0) (i := 0) C 1 rfl rfl dL_law_434 rfl ?_
                refine r_iload_n (pc' := 436) (f4 := 3) (i := 3) C 0 rfl rfl dL_law_435 rfl ?_
                refine r_iconst (pc' := 437) C dL_law_436 rfl ?_
                refine r_iadd (pc' := 438) C dL_law_437 rfl ?_
                refine r_sld (pc' := 439) C hX hbl hbA hL 1 h0 h6 (by decide) hw dL_law_438 rfl ?_
                obtain ⟨q19, hq19, hf⟩ := bind_in hf
                refine q_callV (pc' := 442) C (t_m_feed hF hq19) rfl (K_193 hF) cl_12 wv_RL_44 ⟨Nat.le_of_ble_eq_true rfl, Nat.le_of_ble_eq_true rfl⟩ rfl rfl (Nat.le_of_ble_eq_true rfl) dL_law_439 rfl ⟨by show (_ : Nat) ≤ 600000; omega, by show (_ : Nat) ≤ 7302250; omega⟩ ?_
                refine r_icmp_eq (pc' := 445) (tgt := 1314) C rfl rfl hf dL_law_442 (by decide) rfl (fun hf => ?_) (fun hf => ?_)
                · cases hf
                  refine r_iinc (pc' := 1317) (i := 3) (L' := [(3, zI (i + 6)), (0, .ref b), (1, zP bs 0), (2, zP bs 193)]) C 0 rfl (by decide) rfl dL_law_1314 rfl ?_
                  refine r_goto (tgt := 18) C dL_law_1317 (by decide) ?_
                  exact V.wide (k := cells + 20) (n := slots + 300) (by omega) (by omega) kk
                · refine r_iconst (pc' := 446) C dL_law_445 rfl ?_
                  cases hf
              · rw [if_neg cs6] at hf
                by_cases cs7 : ww (zand (w 0) 63) = 7
                · rw [if_pos cs7] at hf
                  refine r_tsIn (tgt := 447) C 7 cs7 dL_law_33 (by decide) (by decide) rfl (by decide) ?_
                  refine r_aload_n (pc' := 448) (f4 := 1) (i := 1) C 2 rfl rfl dL_law_447 rfl ?_
                  obtain ⟨q20, hq20, hf⟩ := bind_in hf
                  refine q_callV (pc' := 451) C (t_x_orchard hF hq20) rfl (K_0 hF) cl_11 wv_RL_45 ⟨Nat.le_of_ble_eq_true rfl, Nat.le_of_ble_eq_true rfl⟩ rfl rfl (Nat.le_of_ble_eq_true rfl) dL_law_448 rfl ⟨by show (_ : Nat) ≤ 600000; omega, by show (_ : Nat) ≤ 7302250; omega⟩ ?_
                  refine r_aload_n (pc' := 452) (f4 := 2) (i := 2) C 3 rfl rfl dL_law_451 rfl ?_
                  obtain ⟨q21, hq21, hf⟩ := bind_in hf
                  refine q_callV (pc' := 455) C (t_m_orchard hF hq21) rfl (K_193 hF) cl_12 wv_RL_49 ⟨Nat.le_of_ble_eq_true rfl, Nat.le_of_ble_eq_true rfl⟩ rfl rfl (Nat.le_of_ble_eq_true rfl) dL_law_452 rfl ⟨by show (_ : Nat) ≤ 600000; omega, by show (_ : Nat) ≤ 7302250; omega⟩ ?_
                  refine r_icmp_eq (pc' := 458) (tgt := 1314) C rfl rfl hf dL_law_455 (by decide) rfl (fun hf => ?_) (fun hf => ?_)
                  · cases hf
                    refine r_iinc (pc' := 1317) (i := 3) (L' := [(3, zI (i + 6)), (0, .ref b), (1, zP bs 0), (2, zP bs 193)]) C 0 rfl (by decide) rfl dL_law_1314 rfl ?_
                    refine r_goto (tgt := 18) C dL_law_1317 (by decide) ?_
                    exact V.wide (k := cells + 20) (n := slots + 300) (by omega) (by omega) kk
                  · refine r_iconst (pc' := 459) C dL_law_458 rfl ?_
                    cases hf
                · rw [if_neg cs7] at hf
                  by_cases cs8 : ww (zand (w 0) 63) = 8
                  · rw [if_pos cs8] at hf
                    refine r_tsIn (tgt := 460) C 8 cs8 dL_law_33 (by decide) (by decide) rfl (by decide) ?_
                    refine r_aload_n (pc' := 461) (f4 := 1) (i := 1) C 2 rfl rfl dL_law_460 rfl ?_
                    refine r_aloadO_n (pc' := 462) (f4 := 0) (i := 0) C 1 rfl rfl dL_law_461 rfl ?_
                    refine r_iload_n (pc' := 463) (f4 := 3) (i := 3) C 0 rfl rfl dL_law_462 rfl ?_
                    refine r_iconst (pc' := 464) C dL_law_463 rfl ?_
                    refine r_iadd (pc' := 465) C dL_law_464 rfl ?_
                    refine r_sld (pc' := 466) C hX hbl hbA hL 1 h0 h6 (by decide) hw dL_law_465 rfl ?_
                    obtain ⟨q22, hq22, hf⟩ := bind_in hf
                    refine q_callV (pc' := 469) C (t_x_told hF hq22) rfl (K_0 hF) cl_11 wv_RL_50 ⟨Nat.le_of_ble_eq_true rfl, Nat.le_of_ble_eq_true rfl⟩ rfl rfl (Nat.le_of_ble_eq_true rfl) dL_law_466 rfl ⟨by show (_ : Nat) ≤ 600000; omega, by show (_ : Nat) ≤ 7302250; omega⟩ ?_
                    refine r_aload_n (pc' := 470) (f4 := 2) (i := 2) C 3 rfl rfl dL_law_469 rfl ?_
                    refine r_aloadO_n (pc' := 471) (f4 := 0) (i := 0) C 1 rfl rfl dL_law_470 rfl ?_
                    refine r_iload_n (pc' := 472) (f4 := 3) (i := 3) C 0 rfl rfl dL_law_471 rfl ?_
                    refine r_iconst (pc' := 473) C dL_law_472 rfl ?_
                    refine r_iadd (pc' := 474) C dL_law_473 rfl ?_
                    refine r_sld (pc' := 475) C hX hbl hbA hL 1 h0 h6 (by decide) hw dL_law_474 rfl ?_
                    obtain ⟨q23, hq23, hf⟩ := bind_in hf
                    refine q_callV (pc' := 478) C (t_m_told hF hq23) rfl (K_193 hF) cl_12 wv_RL_53 ⟨Nat.le_of_ble_eq_true rfl, Nat.le_of_ble_eq_true rfl⟩ rfl rfl (Nat.le_of_ble_eq_true rfl) dL_law_475 rfl ⟨by show (_ : Nat) ≤ 600000; omega, by show (_ : Nat) ≤ 7302250; omega⟩ ?_
                    refine r_icmp_eq (pc' := 481) (tgt := 1314) C rfl rfl hf dL_law_478 (by decide) rfl (fun hf => ?_) (fun hf => ?_)
                    · cases hf
                      refine r_iinc (pc' := 1317) (i := 3) (L' := [(3, zI (i + 6)), (0, .ref b), (1, zP bs 0), (2, zP bs 193)]) C 0 rfl (by decide) rfl dL_law_1314 rfl ?_
                      refine r_goto (tgt := 18) C dL_law_1317 (by decide) ?_
                      exact V.wide (k := cells + 20) (n := slots + 300) (by omega) (by omega) kk
                    · refine r_iconst (pc' := 482) C dL_law_481 rfl ?_
                      cases hf
                  · rw [if_neg cs8] at hf
                    by_cases cs9 : ww (zand (w 0) 63) = 9
                    · rw [if_pos cs9] at hf
                      refine r_tsIn (tgt := 483) C 9 cs9 dL_law_33 (by decide) (by decide) rfl (by decide) ?_
                      refine r_aload_n (pc' := 484) (f4 := 1) (i := 1) C 2 rfl rfl dL_law_483 rfl ?_
                      refine r_aloadO_n (pc' := 485) (f4 := 0) (i := 0) C 1 rfl rfl dL_law_484 rfl ?_
                      refine r_iload_n (pc' := 486) (f4 := 3) (i := 3) C 0 rfl rfl dL_law_485 rfl ?_
                      refine r_iconst (pc' := 487) C dL_law_486 rfl ?_
                      refine r_iadd (pc' := 488) C dL_law_487 rfl ?_
                      refine r_sld (pc' := 489) C hX hbl hbA hL 1 h0 h6 (by decide) hw dL_law_488 rfl ?_
                      obtain ⟨q24, hq24, hf⟩ := bind_in hf
                      refine q_callV (pc' := 492) C (t_x_pass hF hq24) rfl (K_0 hF) cl_11 wv_RL_54 ⟨Nat.le_of_ble_eq_true rfl, Nat.le_of_ble_eq_true rfl⟩ rfl rfl (Nat.le_of_ble_eq_true rfl) dL_law_489 rfl ⟨by show (_ : Nat) ≤ 600000; omega, by show (_ : Nat) ≤ 7302250; omega⟩ ?_
                      refine r_aload_n (pc' := 493) (f4 := 2) (i := 2) C 3 rfl rfl dL_law_492 rfl ?_
                      refine r_aloadO_n (pc' := 494) (f4 := 0) (i := 0) C 1 rfl rfl dL_law_493 rfl ?_
                      refine r_iload_n (pc' := 495) (f4 := 3) (i := 3) C 0 rfl rfl dL_law_494 rfl ?_
                      refine r_iconst (pc' := 496) C dL_law_495 rfl ?_
                      refine r_iadd (pc' := 497) C dL_law_496 rfl ?_
                      refine r_sld (pc' := 498) C hX hbl hbA hL 1 h0 h6 (by decide) hw dL_law_497 rfl ?_
                      obtain ⟨q25, hq25, hf⟩ := bind_in hf
                      refine q_callV (pc' := 501) C (t_m_pass hF hq25) rfl (K_193 hF) cl_12 wv_RL_57 ⟨Nat.le_of_ble_eq_true rfl, Nat.le_of_ble_eq_true rfl⟩ rfl rfl (Nat.le_of_ble_eq_true rfl) dL_law_498 rfl ⟨by show (_ : Nat) ≤ 600000; omega, by show (_ : Nat) ≤ 7302250; omega⟩ ?_
                      refine r_icmp_eq (pc' := 504) (tgt := 1314) C rfl rfl hf dL_law_501 (by decide) rfl (fun hf => ?_) (fun hf => ?_)
                      · cases hf
                        refine r_iinc (pc' := 1317) (i := 3) (L' := [(3, zI (i + 6)), (0, .ref b), (1, zP bs 0), (2, zP bs 193)]) C 0 rfl (by decide) rfl dL_law_1314 rfl ?_
                        refine r_goto (tgt := 18) C dL_law_1317 (by decide) ?_
                        exact V.wide (k := cells + 20) (n := slots + 300) (by omega) (by omega) kk
                      · refine r_iconst (pc' := 505) C dL_law_504 rfl ?_
                        cases hf
                    · rw [if_neg cs9] at hf
                      by_cases cs10 : ww (zand (w 0) 63) = 10
                      · rw [if_pos cs10] at hf
                        refine r_tsIn (tgt := 506) C 10 cs10 dL_law_33 (by decide) (by decide) rfl (by decide) ?_
                        refine r_aload_n (pc' := 507) (f4 := 1) (i := 1) C 2 rfl rfl dL_law_506 rfl ?_
                        refine r_aloadO_n (pc' := 508) (f4 := 0) (i := 0) C 1 rfl rfl dL_law_507 rfl ?_
                        refine r_iload_n (pc' := 509) (f4 := 3) (i := 3) C 0 rfl rfl dL_law_508 rfl ?_
                        refine r_iconst (pc' := 510) C dL_law_509 rfl ?_
                        refine r_iadd (pc' := 511) C dL_law_510 rfl ?_
                        refine r_sld (pc' := 512) C hX hbl hbA hL 1 h0 h6 (by decide) hw dL_law_511 rfl ?_
                        refine r_aloadO_n (pc' := 513) (f4 := 0) (i := 0) C 1 rfl rfl dL_law_512 rfl ?_
                        refine r_iload_n (pc' := 514) (f4 := 3) (i := 3) C 0 rfl rfl dL_law_513 rfl ?_
                        refine r_iconst (pc' := 515) C dL_law_514 rfl ?_
                        refine r_iadd (pc' := 516) C dL_law_515 rfl ?_
                        refine r_sld (pc' := 517) C hX hbl hbA hL 2 h0 h6 (by decide) hw dL_law_516 rfl ?_
                        obtain ⟨q26, hq26, hf⟩ := bind_in hf
                        refine q_callV (pc' := 520) C (t_x_on hF hq26) rfl (K_0 hF) cl_11 wv_RL_58 ⟨Nat.le_of_ble_eq_true rfl, Nat.le_of_ble_eq_true rfl⟩ rfl rfl (Nat.le_of_ble_eq_true rfl) dL_law_517 rfl ⟨by show (_ : Nat) ≤ 600000; omega, by show (_ : Nat) ≤ 7302250; omega⟩ ?_
                        refine r_aload_n (pc' := 521) (f4 := 2) (i := 2) C 3 rfl rfl dL_law_520 rfl ?_
                        refine r_aloadO_n (pc' := 522) (f4 := 0) (i := 0) C 1 rfl rfl dL_law_521 rfl ?_
                        refine r_iload_n (pc' := 523) (f4 := 3) (i := 3) C 0 rfl rfl dL_law_522 rfl ?_
                        refine r_iconst (pc' := 524) C dL_law_523 rfl ?_
                        refine r_iadd (pc' := 525) C dL_law_524 rfl ?_
                        refine r_sld (pc' := 526) C hX hbl hbA hL 1 h0 h6 (by decide) hw dL_law_525 rfl ?_
                        refine r_aloadO_n (pc' := 527) (f4 := 0) (i := 0) C 1 rfl rfl dL_law_526 rfl ?_
                        refine r_iload_n (pc' := 528) (f4 := 3) (i := 3) C 0 rfl rfl dL_law_527 rfl ?_
                        refine r_iconst (pc' := 529) C dL_law_528 rfl ?_
                        refine r_iadd (pc' := 530) C dL_law_529 rfl ?_
                        refine r_sld (pc' := 531) C hX hbl hbA hL 2 h0 h6 (by decide) hw dL_law_530 rfl ?_
                        obtain ⟨q27, hq27, hf⟩ := bind_in hf
                        refine q_callV (pc' := 534) C (t_m_on hF hq27) rfl (K_193 hF) cl_12 wv_RL_61 ⟨Nat.le_of_ble_eq_true rfl, Nat.le_of_ble_eq_true rfl⟩ rfl rfl (Nat.le_of_ble_eq_true rfl) dL_law_531 rfl ⟨by show (_ : Nat) ≤ 600000; omega, by show (_ : Nat) ≤ 7302250; omega⟩ ?_
                        refine r_icmp_eq (pc' := 537) (tgt := 1314) C rfl rfl hf dL_law_534 (by decide) rfl (fun hf => ?_) (fun hf => ?_)
                        · cases hf
                          refine r_iinc (pc' := 1317) (i := 3) (L' := [(3, zI (i + 6)), (0, .ref b), (1, zP bs 0), (2, zP bs 193)]) C 0 rfl (by decide) rfl dL_law_1314 rfl ?_
                          refine r_goto (tgt := 18) C dL_law_1317 (by decide) ?_
                          exact V.wide (k := cells + 20) (n := slots + 300) (by omega) (by omega) kk
                        · refine r_iconst (pc' := 538) C dL_law_537 rfl ?_
                          cases hf
                      · rw [if_neg cs10] at hf
                        by_cases cs11 : ww (zand (w 0) 63) = 11
                        · rw [if_pos cs11] at hf
                          refine r_tsIn (tgt := 539) C 11 cs11 dL_law_33 (by decide) (by decide) rfl (by decide) ?_
                          refine r_aload_n (pc' := 540) (f4 := 1) (i := 1) C 2 rfl rfl dL_law_539 rfl ?_
                          refine r_aloadO_n (pc' := 541) (f4 := 0) (i := 0) C 1 rfl rfl dL_law_540 rfl ?_
                          refine r_iload_n (pc' := 542) (f4 := 3) (i := 3) C 0 rfl rfl dL_law_541 rfl ?_
                          refine r_iconst (pc' := 543) C dL_law_542 rfl ?_
                          refine r_iadd (pc' := 544) C dL_law_543 rfl ?_
                          refine r_sld (pc' := 545) C hX hbl hbA hL 1 h0 h6 (by decide) hw dL_law_544 rfl ?_
                          obtain ⟨q28, hq28, hf⟩ := bind_in hf
                          refine q_callV (pc' := 548) C (t_x_ring hF hq28) rfl (K_0 hF) cl_11 wv_RL_62 ⟨Nat.le_of_ble_eq_true rfl, Nat.le_of_ble_eq_true rfl⟩ rfl rfl (Nat.le_of_ble_eq_true rfl) dL_law_545 rfl ⟨by show (_ : Nat) ≤ 600000; omega, by show (_ : Nat) ≤ 7302250; omega⟩ ?_
                          refine r_aload_n (pc' := 549) (f4 := 2) (i := 2) C 3 rfl rfl dL_law_548 rfl ?_
                          refine r_aloadO_n (pc' := 550) (f4 := 0) (i := 0) C 1 rfl rfl dL_law_549 rfl ?_
                          refine r_iload_n (pc' := 551) (f4 := 3) (i := 3) C 0 rfl rfl dL_law_550 rfl ?_
                          refine r_iconst (pc' := 552) C dL_law_551 rfl ?_
                          refine r_iadd (pc' := 553) C dL_law_552 rfl ?_
                          refine r_sld (pc' := 554) C hX hbl hbA hL 1 h0 h6 (by decide) hw dL_law_553 rfl ?_
                          obtain ⟨q29, hq29, hf⟩ := bind_in hf
                          refine q_callV (pc' := 557) C (t_m_ring hF hq29) rfl (K_193 hF) cl_12 wv_RL_65 ⟨Nat.le_of_ble_eq_true rfl, Nat.le_of_ble_eq_true rfl⟩ rfl rfl (Nat.le_of_ble_eq_true rfl) dL_law_554 rfl ⟨by show (_ : Nat) ≤ 600000; omega, by show (_ : Nat) ≤ 7302250; omega⟩ ?_
                          refine r_icmp_eq (pc' := 560) (tgt := 1314) C rfl rfl hf dL_law_557 (by decide) rfl (fun hf => ?_) (fun hf => ?_)
                          · cases hf
                            refine r_iinc (pc' := 1317) (i := 3) (L' := [(3, zI (i + 6)), (0, .ref b), (1, zP bs 0), (2, zP bs 193)]) C 0 rfl (by decide) rfl dL_law_1314 rfl ?_
                            refine r_goto (tgt := 18) C dL_law_1317 (by decide) ?_
                            exact V.wide (k := cells + 20) (n := slots + 300) (by omega) (by omega) kk
                          · refine r_iconst (pc' := 561) C dL_law_560 rfl ?_
                            cases hf
                        · rw [if_neg cs11] at hf
                          by_cases cs12 : ww (zand (w 0) 63) = 12
                          · rw [if_pos cs12] at hf
                            refine r_tsIn (tgt := 562) C 12 cs12 dL_law_33 (by decide) (by decide) rfl (by decide) ?_
                            refine r_aload_n (pc' := 563) (f4 := 1) (i := 1) C 2 rfl rfl dL_law_562 rfl ?_
                            refine r_aloadO_n (pc' := 564) (f4 := 0) (i := 0) C 1 rfl rfl dL_law_563 rfl ?_
                            refine r_iload_n (pc' := 565) (f4 := 3) (i := 3) C 0 rfl rfl dL_law_564 rfl ?_
                            refine r_iconst (pc' := 566) C dL_law_565 rfl ?_
                            refine r_iadd (pc' := 567) C dL_law_566 rfl ?_
                            refine r_sld (pc' := 568) C hX hbl hbA hL 1 h0 h6 (by decide) hw dL_law_567 rfl ?_
                            refine r_aloadO_n (pc' := 569) (f4 := 0) (i := 0) C 1 rfl rfl dL_law_568 rfl ?_
                            refine r_iload_n (pc' := 570) (f4 := 3) (i := 3) C 0 rfl rfl dL_law_569 rfl ?_
                            refine r_iconst (pc' := 571) C dL_law_570 rfl ?_
                            refine r_iadd (pc' := 572) C dL_law_571 rfl ?_
                            refine r_sld (pc' := 573) C hX hbl hbA hL 2 h0 h6 (by decide) hw dL_law_572 rfl ?_
                            refine r_aloadO_n (pc' := 574) (f4 := 0) (i := 0) C 1 rfl rfl dL_law_573 rfl ?_
                            refine r_iload_n (pc' := 575) (f4 := 3) (i := 3) C 0 rfl rfl dL_law_574 rfl ?_
                            refine r_iconst (pc' := 576) C dL_law_575 rfl ?_
                            refine r_iadd (pc' := 577) C dL_law_576 rfl ?_
                            refine r_sld (pc' := 578) C hX hbl hbA hL 3 h0 h6 (by decide) hw dL_law_577 rfl ?_
                            obtain ⟨q30, hq30, hf⟩ := bind_in hf
                            refine q_callV (pc' := 581) C (t_x_turn hF hq30) rfl (K_0 hF) cl_11 wv_RL_66 ⟨Nat.le_of_ble_eq_true rfl, Nat.le_of_ble_eq_true rfl⟩ rfl rfl (Nat.le_of_ble_eq_true rfl) dL_law_578 rfl ⟨by show (_ : Nat) ≤ 600000; omega, by show (_ : Nat) ≤ 7302250; omega⟩ ?_
                            refine r_aload_n (pc' := 582) (f4 := 2) (i := 2) C 3 rfl rfl dL_law_581 rfl ?_
                            refine r_aloadO_n (pc' := 583) (f4 := 0) (i := 0) C 1 rfl rfl dL_law_582 rfl ?_
                            refine r_iload_n (pc' := 584) (f4 := 3) (i := 3) C 0 rfl rfl dL_law_583 rfl ?_
                            refine r_iconst (pc' := 585) C dL_law_584 rfl ?_
                            refine r_iadd (pc' := 586) C dL_law_585 rfl ?_
                            refine r_sld (pc' := 587) C hX hbl hbA hL 1 h0 h6 (by decide) hw dL_law_586 rfl ?_
                            refine r_aloadO_n (pc' := 588) (f4 := 0) (i := 0) C 1 rfl rfl dL_law_587 rfl ?_
                            refine r_iload_n (pc' := 589) (f4 := 3) (i := 3) C 0 rfl rfl dL_law_588 rfl ?_
                            refine r_iconst (pc' := 590) C dL_law_589 rfl ?_
                            refine r_iadd (pc' := 591) C dL_law_590 rfl ?_
                            refine r_sld (pc' := 592) C hX hbl hbA hL 2 h0 h6 (by decide) hw dL_law_591 rfl ?_
                            refine r_aloadO_n (pc' := 593) (f4 := 0) (i := 0) C 1 rfl rfl dL_law_592 rfl ?_
                            refine r_iload_n (pc' := 594) (f4 := 3) (i := 3) C 0 rfl rfl dL_law_593 rfl ?_
                            refine r_iconst (pc' := 595) C dL_law_594 rfl ?_
                            refine r_iadd (pc' := 596) C dL_law_595 rfl ?_
                            refine r_sld (pc' := 597) C hX hbl hbA hL 3 h0 h6 (by decide) hw dL_law_596 rfl ?_
                            obtain ⟨q31, hq31, hf⟩ := bind_in hf
                            refine q_callV (pc' := 600) C (t_m_turn hF hq31) rfl (K_193 hF) cl_12 wv_RL_69 ⟨Nat.le_of_ble_eq_true rfl, Nat.le_of_ble_eq_true rfl⟩ rfl rfl (Nat.le_of_ble_eq_true rfl) dL_law_597 rfl ⟨by show (_ : Nat) ≤ 600000; omega, by show (_ : Nat) ≤ 7302250; omega⟩ ?_
                            refine r_icmp_eq (pc' := 603) (tgt := 1314) C rfl rfl hf dL_law_600 (by decide) rfl (fun hf => ?_) (fun hf => ?_)
                            · cases hf
                              refine r_iinc (pc' := 1317) (i := 3) (L' := [(3, zI (i + 6)), (0, .ref b), (1, zP bs 0), (2, zP bs 193)]) C 0 rfl (by decide) rfl dL_law_1314 rfl ?_
                              refine r_goto (tgt := 18) C dL_law_1317 (by decide) ?_
                              exact V.wide (k := cells + 20) (n := slots + 300) (by omega) (by omega) kk
                            · refine r_iconst (pc' := 604) C dL_law_603 rfl ?_
                              cases hf
                          · rw [if_neg cs12] at hf
                            by_cases cs13 : ww (zand (w 0) 63) = 13
                            · rw [if_pos cs13] at hf
                              refine r_tsIn (tgt := 605) C 13 cs13 dL_law_33 (by decide) (by decide) rfl (by decide) ?_
                              refine r_aload_n (pc' := 606) (f4 := 1) (i := 1) C 2 rfl rfl dL_law_605 rfl ?_
                              refine r_aloadO_n (pc' := 607) (f4 := 0) (i := 0) C 1 rfl rfl dL_law_606 rfl ?_
                              refine r_iload_n (pc' := 608) (f4 := 3) (i := 3) C 0 rfl rfl dL_law_607 rfl ?_
                              refine r_iconst (pc' := 609) C dL_law_608 rfl ?_
                              refine r_iadd (pc' := 610) C dL_law_609 rfl ?_
                              refine r_sld (pc' := 611) C hX hbl hbA hL 1 h0 h6 (by decide) hw dL_law_610 rfl ?_
                              refine r_aloadO_n (pc' := 612) (f4 := 0) (i := 0) C 1 rfl rfl dL_law_611 rfl ?_
                              refine r_iload_n (pc' := 613) (f4 := 3) (i := 3) C 0 rfl rfl dL_law_612 rfl ?_
                              refine r_iconst (pc' := 614) C dL_law_613 rfl ?_
                              refine r_iadd (pc' := 615) C dL_law_614 rfl ?_
                              refine r_sld (pc' := 616) C hX hbl hbA hL 2 h0 h6 (by decide) hw dL_law_615 rfl ?_
                              refine r_aloadO_n (pc' := 617) (f4 := 0) (i := 0) C 1 rfl rfl dL_law_616 rfl ?_
                              refine r_iload_n (pc' := 618) (f4 := 3) (i := 3) C 0 rfl rfl dL_law_617 rfl ?_
                              refine r_iconst (pc' := 619) C dL_law_618 rfl ?_
                              refine r_iadd (pc' := 620) C dL_law_619 rfl ?_
                              refine r_sld (pc' := 621) C hX hbl hbA hL 3 h0 h6 (by decide) hw dL_law_620 rfl ?_
                              refine r_aloadO_n (pc' := 622) (f4 := 0) (i := 0) C 1 rfl rfl dL_law_621 rfl ?_
                              refine r_iload_n (pc' := 623) (f4 := 3) (i := 3) C 0 rfl rfl dL_law_622 rfl ?_
                              refine r_iconst (pc' := 624) C dL_law_623 rfl ?_
                              refine r_iadd (pc' := 625) C dL_law_624 rfl ?_
                              refine r_sld (pc' := 626) C hX hbl hbA hL 4 h0 h6 (by decide) hw dL_law_625 rfl ?_
                              refine r_if_eq (pc' := 629) (tgt := 633) C rfl hf dL_law_626 (by decide) rfl (fun hf => ?_) (fun hf => ?_)
                              · refine r_iconst (pc' := 634) C dL_law_633 rfl ?_
                                obtain ⟨q32, hq32, hf⟩ := bind_in hf
                                refine q_callV (pc' := 637) C (t_x_see hF hq32) rfl (K_0 hF) cl_11 wv_RL_70 ⟨Nat.le_of_ble_eq_true rfl, Nat.le_of_ble_eq_true rfl⟩ rfl rfl (Nat.le_of_ble_eq_true rfl) dL_law_634 rfl ⟨by show (_ : Nat) ≤ 600000; omega, by show (_ : Nat) ≤ 7302250; omega⟩ ?_
                                refine r_aload_n (pc' := 638) (f4 := 2) (i := 2) C 3 rfl rfl dL_law_637 rfl ?_
                                refine r_aloadO_n (pc' := 639) (f4 := 0) (i := 0) C 1 rfl rfl dL_law_638 rfl ?_
                                refine r_iload_n (pc' := 640) (f4 := 3) (i := 3) C 0 rfl rfl dL_law_639 rfl ?_
                                refine r_iconst (pc' := 641) C dL_law_640 rfl ?_
                                refine r_iadd (pc' := 642) C dL_law_641 rfl ?_
                                refine r_sld (pc' := 643) C hX hbl hbA hL 1 h0 h6 (by decide) hw dL_law_642 rfl ?_
                                refine r_aloadO_n (pc' := 644) (f4 := 0) (i := 0) C 1 rfl rfl dL_law_643 rfl ?_
                                refine r_iload_n (pc' := 645) (f4 := 3) (i := 3) C 0 rfl rfl dL_law_644 rfl ?_
                                refine r_iconst (pc' := 646) C dL_law_645 rfl ?_
                                refine r_iadd (pc' := 647) C dL_law_646 rfl ?_
                                refine r_sld (pc' := 648) C hX hbl hbA hL 2 h0 h6 (by decide) hw dL_law_647 rfl ?_
                                refine r_aloadO_n (pc' := 649) (f4 := 0) (i := 0) C 1 rfl rfl dL_law_648 rfl ?_
                                refine r_iload_n (pc' := 650) (f4 := 3) (i := 3) C 0 rfl rfl dL_law_649 rfl ?_
                                refine r_iconst (pc' := 651) C dL_law_650 rfl ?_
                                refine r_iadd (pc' := 652) C dL_law_651 rfl ?_
                                refine r_sld (pc' := 653) C hX hbl hbA hL 3 h0 h6 (by decide) hw dL_law_652 rfl ?_
                                refine r_aloadO_n (pc' := 654) (f4 := 0) (i := 0) C 1 rfl rfl dL_law_653 rfl ?_
                                refine r_iload_n (pc' := 655) (f4 := 3) (i := 3) C 0 rfl rfl dL_law_654 rfl ?_
                                refine r_iconst (pc' := 656) C dL_law_655 rfl ?_
                                refine r_iadd (pc' := 657) C dL_law_656 rfl ?_
                                refine r_sld (pc' := 658) C hX hbl hbA hL 4 h0 h6 (by decide) hw dL_law_657 rfl ?_
                                refine r_if_eq (pc' := 661) (tgt := 665) C rfl hf dL_law_658 (by decide) rfl (fun hf => ?_) (fun hf => ?_)
                                · refine r_iconst (pc' := 666) C dL_law_665 rfl ?_
                                  obtain ⟨q33, hq33, hf⟩ := bind_in hf
                                  refine q_callV (pc' := 669) C (t_m_see hF hq33) rfl (K_193 hF) cl_12 wv_RL_74 ⟨Nat.le_of_ble_eq_true rfl, Nat.le_of_ble_eq_true rfl⟩ rfl rfl (Nat.le_of_ble_eq_true rfl) dL_law_666 rfl ⟨by show (_ : Nat) ≤ 600000; omega, by show (_ : Nat) ≤ 7302250; omega⟩ ?_
                                  refine r_icmp_eq (pc' := 672) (tgt := 1314) C rfl rfl hf dL_law_669 (by decide) rfl (fun hf => ?_) (fun hf => ?_)
                                  · cases hf
                                    refine r_iinc (pc' := 1317) (i := 3) (L' := [(3, zI (i + 6)), (0, .ref b), (1, zP bs 0), (2, zP bs 193)]) C 0 rfl (by decide) rfl dL_law_1314 rfl ?_
                                    refine r_goto (tgt := 18) C dL_law_1317 (by decide) ?_
                                    exact V.wide (k := cells + 20) (n := slots + 300) (by omega) (by omega) kk
                                  · refine r_iconst (pc' := 673) C dL_law_672 rfl ?_
                                    cases hf
                                · refine r_iconst (pc' := 662) C dL_law_661 rfl ?_
                                  refine r_goto (tgt := 666) C dL_law_662 (by decide) ?_
                                  obtain ⟨q34, hq34, hf⟩ := bind_in hf
                                  refine q_callV (pc' := 669) C (t_m_see hF hq34) rfl (K_193 hF) cl_12 wv_RL_74 ⟨Nat.le_of_ble_eq_true rfl, Nat.le_of_ble_eq_true rfl⟩ rfl rfl (Nat.le_of_ble_eq_true rfl) dL_law_666 rfl ⟨by show (_ : Nat) ≤ 600000; omega, by show (_ : Nat) ≤ 7302250; omega⟩ ?_
                                  refine r_icmp_eq (pc' := 672) (tgt := 1314) C rfl rfl hf dL_law_669 (by decide) rfl (fun hf => ?_) (fun hf => ?_)
                                  · cases hf
                                    refine r_iinc (pc' := 1317) (i := 3) (L' := [(3, zI (i + 6)), (0, .ref b), (1, zP bs 0), (2, zP bs 193)]) C 0 rfl (by decide) rfl dL_law_1314 rfl ?_
                                    refine r_goto (tgt := 18) C dL_law_1317 (by decide) ?_
                                    exact V.wide (k := cells + 20) (n := slots + 300) (by omega) (by omega) kk
                                  · refine r_iconst (pc' := 673) C dL_law_672 rfl ?_
                                    cases hf
                              · refine r_iconst (pc' := 630) C dL_law_629 rfl ?_
                                refine r_goto (tgt := 634) C dL_law_630 (by decide) ?_
                                obtain ⟨q35, hq35, hf⟩ := bind_in hf
                                refine q_callV (pc' := 637) C (t_x_see hF hq35) rfl (K_0 hF) cl_11 wv_RL_70 ⟨Nat.le_of_ble_eq_true rfl, Nat.le_of_ble_eq_true rfl⟩ rfl rfl (Nat.le_of_ble_eq_true rfl) dL_law_634 rfl ⟨by show (_ : Nat) ≤ 600000; omega, by show (_ : Nat) ≤ 7302250; omega⟩ ?_
                                refine r_aload_n (pc' := 638) (f4 := 2) (i := 2) C 3 rfl rfl dL_law_637 rfl ?_
                                refine r_aloadO_n (pc' := 639) (f4 := 0) (i := 0) C 1 rfl rfl dL_law_638 rfl ?_
                                refine r_iload_n (pc' := 640) (f4 := 3) (i := 3) C 0 rfl rfl dL_law_639 rfl ?_
                                refine r_iconst (pc' := 641) C dL_law_640 rfl ?_
                                refine r_iadd (pc' := 642) C dL_law_641 rfl ?_
                                refine r_sld (pc' := 643) C hX hbl hbA hL 1 h0 h6 (by decide) hw dL_law_642 rfl ?_
                                refine r_aloadO_n (pc' := 644) (f4 := 0) (i := 0) C 1 rfl rfl dL_law_643 rfl ?_
                                refine r_iload_n (pc' := 645) (f4 := 3) (i := 3) C 0 rfl rfl dL_law_644 rfl ?_
                                refine r_iconst (pc' := 646) C dL_law_645 rfl ?_
                                refine r_iadd (pc' := 647) C dL_law_646 rfl ?_
                                refine r_sld (pc' := 648) C hX hbl hbA hL 2 h0 h6 (by decide) hw dL_law_647 rfl ?_
                                refine r_aloadO_n (pc' := 649) (f4 := 0) (i := 0) C 1 rfl rfl dL_law_648 rfl ?_
                                refine r_iload_n (pc' := 650) (f4 := 3) (i := 3) C 0 rfl rfl dL_law_649 rfl ?_
                                refine r_iconst (pc' := 651) C dL_law_650 rfl ?_
                                refine r_iadd (pc' := 652) C dL_law_651 rfl ?_
                                refine r_sld (pc' := 653) C hX hbl hbA hL 3 h0 h6 (by decide) hw dL_law_652 rfl ?_
                                refine r_aloadO_n (pc' := 654) (f4 := 0) (i := 0) C 1 rfl rfl dL_law_653 rfl ?_
                                refine r_iload_n (pc' := 655) (f4 := 3) (i := 3) C 0 rfl rfl dL_law_654 rfl ?_
                                refine r_iconst (pc' := 656) C dL_law_655 rfl ?_
                                refine r_iadd (pc' := 657) C dL_law_656 rfl ?_
                                refine r_sld (pc' := 658) C hX hbl hbA hL 4 h0 h6 (by decide) hw dL_law_657 rfl ?_
                                refine r_if_eq (pc' := 661) (tgt := 665) C rfl hf dL_law_658 (by decide) rfl (fun hf => ?_) (fun hf => ?_)
                                · refine r_iconst (pc' := 666) C dL_law_665 rfl ?_
                                  obtain ⟨q36, hq36, hf⟩ := bind_in hf
                                  refine q_callV (pc' := 669) C (t_m_see hF hq36) rfl (K_193 hF) cl_12 wv_RL_74 ⟨Nat.le_of_ble_eq_true rfl, Nat.le_of_ble_eq_true rfl⟩ rfl rfl (Nat.le_of_ble_eq_true rfl) dL_law_666 rfl ⟨by show (_ : Nat) ≤ 600000; omega, by show (_ : Nat) ≤ 7302250; omega⟩ ?_
                                  refine r_icmp_eq (pc' := 672) (tgt := 1314) C rfl rfl hf dL_law_669 (by decide) rfl (fun hf => ?_) (fun hf => ?_)
                                  · cases hf
                                    refine r_iinc (pc' := 1317) (i := 3) (L' := [(3, zI (i + 6)), (0, .ref b), (1, zP bs 0), (2, zP bs 193)]) C 0 rfl (by decide) rfl dL_law_1314 rfl ?_
                                    refine r_goto (tgt := 18) C dL_law_1317 (by decide) ?_
                                    exact V.wide (k := cells + 20) (n := slots + 300) (by omega) (by omega) kk
                                  · refine r_iconst (pc' := 673) C dL_law_672 rfl ?_
                                    cases hf
                                · refine r_iconst (pc' := 662) C dL_law_661 rfl ?_
                                  refine r_goto (tgt := 666) C dL_law_662 (by decide) ?_
                                  obtain ⟨q37, hq37, hf⟩ := bind_in hf
                                  refine q_callV (pc' := 669) C (t_m_see hF hq37) rfl (K_193 hF) cl_12 wv_RL_74 ⟨Nat.le_of_ble_eq_true rfl, Nat.le_of_ble_eq_true rfl⟩ rfl rfl (Nat.le_of_ble_eq_true rfl) dL_law_666 rfl ⟨by show (_ : Nat) ≤ 600000; omega, by show (_ : Nat) ≤ 7302250; omega⟩ ?_
                                  refine r_icmp_eq (pc' := 672) (tgt := 1314) C rfl rfl hf dL_law_669 (by decide) rfl (fun hf => ?_) (fun hf => ?_)
                                  · cases hf
                                    refine r_iinc (pc' := 1317) (i := 3) (L' := [(3, zI (i + 6)), (0, .ref b), (1, zP bs 0), (2, zP bs 193)]) C 0 rfl (by decide) rfl dL_law_1314 rfl ?_
                                    refine r_goto (tgt := 18) C dL_law_1317 (by decide) ?_
                                    exact V.wide (k := cells + 20) (n := slots + 300) (by omega) (by omega) kk
                                  · refine r_iconst (pc' := 673) C dL_law_672 rfl ?_
                                    cases hf
                            · rw [if_neg cs13] at hf
                              by_cases cs14 : ww (zand (w 0) 63) = 14
                              · rw [if_pos cs14] at hf
                                refine r_tsIn (tgt := 674) C 14 cs14 dL_law_33 (by decide) (by decide) rfl (by decide) ?_
                                refine r_aload_n (pc' := 675) (f4 := 1) (i := 1) C 2 rfl rfl dL_law_674 rfl ?_
                                refine r_aloadO_n (pc' := 676) (f4 := 0) (i := 0) C 1 rfl rfl dL_law_675 rfl ?_
                                refine r_iload_n (pc' := 677) (f4 := 3) (i := 3) C 0 rfl rfl dL_law_676 rfl ?_
                                refine r_iconst (pc' := 678) C dL_law_677 rfl ?_
                                refine r_iadd (pc' := 679) C dL_law_678 rfl ?_
                                refine r_sld (pc' := 680) C hX hbl hbA hL 1 h0 h6 (by decide) hw dL_law_679 rfl ?_
                                refine r_aloadO_n (pc' := 681) (f4 := 0) (i := 0) C 1 rfl rfl dL_law_680 rfl ?_
                                refine r_iload_n (pc' := 682) (f4 := 3) (i := 3) C 0 rfl rfl dL_law_681 rfl ?_
                                refine r_iconst (pc' := 683) C dL_law_682 rfl ?_
                                refine r_iadd (pc' := 684) C dL_law_683 rfl ?_
                                refine r_sld (pc' := 685) C hX hbl hbA hL 2 h0 h6 (by decide) hw dL_law_684 rfl ?_
                                refine r_aloadO_n (pc' := 686) (f4 := 0) (i := 0) C 1 rfl rfl dL_law_685 rfl ?_
                                refine r_iload_n (pc' := 687) (f4 := 3) (i := 3) C 0 rfl rfl dL_law_686 rfl ?_
                                refine r_iconst (pc' := 688) C dL_law_687 rfl ?_
                                refine r_iadd (pc' := 689) C dL_law_688 rfl ?_
                                refine r_sld (pc' := 690) C hX hbl hbA hL 3 h0 h6 (by decide) hw dL_law_689 rfl ?_
                                obtain ⟨q38, hq38, hf⟩ := bind_in hf
                                refine q_callV (pc' := 693) C (t_x_hates hF hq38) rfl (K_0 hF) cl_11 wv_RL_75 ⟨Nat.le_of_ble_eq_true rfl, Nat.le_of_ble_eq_true rfl⟩ rfl rfl (Nat.le_of_ble_eq_true rfl) dL_law_690 rfl ⟨by show (_ : Nat) ≤ 600000; omega, by show (_ : Nat) ≤ 7302250; omega⟩ ?_
                                refine r_aload_n (pc' := 694) (f4 := 2) (i := 2) C 3 rfl rfl dL_law_693 rfl ?_
                                refine r_aloadO_n (pc' := 695) (f4 := 0) (i := 0) C 1 rfl rfl dL_law_694 rfl ?_
                                refine r_iload_n (pc' := 696) (f4 := 3) (i := 3) C 0 rfl rfl dL_law_695 rfl ?_
                                refine r_iconst (pc' := 697) C dL_law_696 rfl ?_
                                refine r_iadd (pc' := 698) C dL_law_697 rfl ?_
                                refine r_sld (pc' := 699) C hX hbl hbA hL 1 h0 h6 (by decide) hw dL_law_698 rfl ?_
                                refine r_aloadO_n (pc' := 700) (f4 := 0) (i := 0) C 1 rfl rfl dL_law_699 rfl ?_
                                refine r_iload_n (pc' := 701) (f4 := 3) (i := 3) C 0 rfl rfl dL_law_700 rfl ?_
                                refine r_iconst (pc' := 702) C dL_law_701 rfl ?_
                                refine r_iadd (pc' := 703) C dL_law_702 rfl ?_
                                refine r_sld (pc' := 704) C hX hbl hbA hL 2 h0 h6 (by decide) hw dL_law_703 rfl ?_
                                refine r_aloadO_n (pc' := 705) (f4 := 0) (i := 0) C 1 rfl rfl dL_law_704 rfl ?_
                                refine r_iload_n (pc' := 706) (f4 := 3) (i := 3) C 0 rfl rfl dL_law_705 rfl ?_
                                refine r_iconst (pc' := 707) C dL_law_706 rfl ?_
                                refine r_iadd (pc' := 708) C dL_law_707 rfl ?_
                                refine r_sld (pc' := 709) C hX hbl hbA hL 3 h0 h6 (by decide) hw dL_law_708 rfl ?_
                                obtain ⟨q39, hq39, hf⟩ := bind_in hf
                                refine q_callV (pc' := 712) C (t_m_hates hF hq39) rfl (K_193 hF) cl_12 wv_RL_78 ⟨Nat.le_of_ble_eq_true rfl, Nat.le_of_ble_eq_true rfl⟩ rfl rfl (Nat.le_of_ble_eq_true rfl) dL_law_709 rfl ⟨by show (_ : Nat) ≤ 600000; omega, by show (_ : Nat) ≤ 7302250; omega⟩ ?_
                                refine r_icmp_eq (pc' := 715) (tgt := 1314) C rfl rfl hf dL_law_712 (by decide) rfl (fun hf => ?_) (fun hf => ?_)
                                · cases hf
                                  refine r_iinc (pc' := 1317) (i := 3) (L' := [(3, zI (i + 6)), (0, .ref b), (1, zP bs 0), (2, zP bs 193)]) C 0 rfl (by decide) rfl dL_law_1314 rfl ?_
                                  refine r_goto (tgt := 18) C dL_law_1317 (by decide) ?_
                                  exact V.wide (k := cells + 20) (n := slots + 300) (by omega) (by omega) kk
                                · refine r_iconst (pc' := 716) C dL_law_715 rfl ?_
                                  cases hf
                              · rw [if_neg cs14] at hf
                                by_cases cs15 : ww (zand (w 0) 63) = 15
                                · rw [if_pos cs15] at hf
                                  refine r_tsIn (tgt := 717) C 15 cs15 dL_law_33 (by decide) (by decide) rfl (by decide) ?_
                                  refine r_aload_n (pc' := 718) (f4 := 1) (i := 1) C 2 rfl rfl dL_law_717 rfl ?_
                                  refine r_aloadO_n (pc' := 719) (f4 := 0) (i := 0) C 1 rfl rfl dL_law_718 rfl ?_
                                  refine r_iload_n (pc' := 720) (f4 := 3) (i := 3) C 0 rfl rfl dL_law_719 rfl ?_
                                  refine r_iconst (pc' := 721) C dL_law_720 rfl ?_
                                  refine r_iadd (pc' := 722) C dL_law_721 rfl ?_
                                  refine r_sld (pc' := 723) C hX hbl hbA hL 1 h0 h6 (by decide) hw dL_law_722 rfl ?_
                                  refine r_aloadO_n (pc' := 724) (f4 := 0) (i := 0) C 1 rfl rfl dL_law_723 rfl ?_
                                  refine r_iload_n (pc' := 725) (f4 := 3) (i := 3) C 0 rfl rfl dL_law_724 rfl ?_
                                  refine r_iconst (pc' := 726) C dL_law_725 rfl ?_
                                  refine r_iadd (pc' := 727) C dL_law_726 rfl ?_
                                  refine r_sld (pc' := 728) C hX hbl hbA hL 2 h0 h6 (by decide) hw dL_law_727 rfl ?_
                                  obtain ⟨q40, hq40, hf⟩ := bind_in hf
                                  refine r_callVD (n := 2) (ci := 11) (pc' := 731) C (t_x_can hF hq40).toD rfl (K_0 hF) cl_11 wv_RL_79 ⟨Nat.le_of_ble_eq_true rfl, Nat.le_of_ble_eq_true rfl⟩ rfl rfl (Nat.le_of_ble_eq_true rfl) dL_law_728 rfl ⟨by show (_ : Nat) ≤ 600000; omega, by show (_ : Nat) ≤ 7302250; omega⟩ ?_
                                  obtain ⟨hx41, hf⟩ := ckX_in hf
                                  have hF := hF.ext hx41
                                  refine r_aload_n (pc' := 732) (f4 := 2) (i := 2) C 3 rfl rfl dL_law_731 rfl ?_
                                  refine r_aloadO_n (pc' := 733) (f4 := 0) (i := 0) C 1 rfl rfl dL_law_732 rfl ?_
                                  refine r_iload_n (pc' := 734) (f4 := 3) (i := 3) C 0 rfl rfl dL_law_733 rfl ?_
                                  refine r_iconst (pc' := 735) C dL_law_734 rfl ?_
                                  refine r_iadd (pc' := 736) C dL_law_735 rfl ?_
                                  refine r_sld (pc' := 737) C hX hbl hbA hL 1 h0 h6 (by decide) hw dL_law_736 rfl ?_
                                  refine r_aloadO_n (pc' := 738) (f4 := 0) (i := 0) C 1 rfl rfl dL_law_737 rfl ?_
                                  refine r_iload_n (pc' := 739) (f4 := 3) (i := 3) C 0 rfl rfl dL_law_738 rfl ?_
                                  refine r_iconst (pc' := 740) C dL_law_739 rfl ?_
                                  refine r_iadd (pc' := 741) C dL_law_740 rfl ?_
                                  refine r_sld (pc' := 742) C hX hbl hbA hL 2 h0 h6 (by decide) hw dL_law_741 rfl ?_
                                  obtain ⟨q42, hq42, hf⟩ := bind_in hf
                                  refine q_callV (pc' := 745) C (t_m_can hF hq42) rfl (K_193 hF) cl_12 wv_RL_82 ⟨Nat.le_of_ble_eq_true rfl, Nat.le_of_ble_eq_true rfl⟩ rfl rfl (Nat.le_of_ble_eq_true rfl) dL_law_742 rfl ⟨by show (_ : Nat) ≤ 600000; omega, by show (_ : Nat) ≤ 7302250; omega⟩ ?_
                                  refine r_icmp_eq (pc' := 748) (tgt := 1314) C rfl rfl hf dL_law_745 (by decide) rfl (fun hf => ?_) (fun hf => ?_)
                                  · cases hf
                                    refine r_iinc (pc' := 1317) (i := 3) (L' := [(3, zI (i + 6)), (0, .ref b), (1, zP bs 0), (2, zP bs 193)]) C 0 rfl (by decide) rfl dL_law_1314 rfl ?_
                                    refine r_goto (tgt := 18) C dL_law_1317 (by decide) ?_
                                    exact V.wide (k := cells + 20) (n := slots + 300) (by omega) (by omega) kk
                                  · refine r_iconst (pc' := 749) C dL_law_748 rfl ?_
                                    cases hf
                                · rw [if_neg cs15] at hf
                                  by_cases cs16 : ww (zand (w 0) 63) = 16
                                  · rw [if_pos cs16] at hf
                                    refine r_tsIn (tgt := 750) C 16 cs16 dL_law_33 (by decide) (by decide) rfl (by decide) ?_
                                    refine r_aload_n (pc' := 751) (f4 := 1) (i := 1) C 2 rfl rfl dL_law_750 rfl ?_
                                    refine r_aloadO_n (pc' := 752) (f4 := 0) (i := 0) C 1 rfl rfl dL_law_751 rfl ?_
                                    refine r_iload_n (pc' := 753) (f4 := 3) (i := 3) C 0 rfl rfl dL_law_752 rfl ?_
                                    refine r_iconst (pc' := 754) C dL_law_753 rfl ?_
                                    refine r_iadd (pc' := 755) C dL_law_754 rfl ?_
                                    refine r_sld (pc' := 756) C hX hbl hbA hL 1 h0 h6 (by decide) hw dL_law_755 rfl ?_
                                    refine r_aloadO_n (pc' := 757) (f4 := 0) (i := 0) C 1 rfl rfl dL_law_756 rfl ?_
                                    refine r_iload_n (pc' := 758) (f4 := 3) (i := 3) C 0 rfl rfl dL_law_757 rfl ?_
                                    refine r_iconst (pc' := 759) C dL_law_758 rfl ?_
                                    refine r_iadd (pc' := 760) C dL_law_759 rfl ?_
                                    refine r_sld (pc' := 761) C hX hbl hbA hL 2 h0 h6 (by decide) hw dL_law_760 rfl ?_
                                    obtain ⟨q43, hq43, hf⟩ := bind_in hf
                                    refine q_callV (pc' := 764) C (t_x_odds hF hq43) rfl (K_0 hF) cl_11 wv_RL_83 ⟨Nat.le_of_ble_eq_true rfl, Nat.le_of_ble_eq_true rfl⟩ rfl rfl (Nat.le_of_ble_eq_true rfl) dL_law_761 rfl ⟨by show (_ : Nat) ≤ 600000; omega, by show (_ : Nat) ≤ 7302250; omega⟩ ?_
                                    refine r_aload_n (pc' := 765) (f4 := 2) (i := 2) C 3 rfl rfl dL_law_764 rfl ?_
                                    refine r_aloadO_n (pc' := 766) (f4 := 0) (i := 0) C 1 rfl rfl dL_law_765 rfl ?_
                                    refine r_iload_n (pc' := 767) (f4 := 3) (i := 3) C 0 rfl rfl dL_law_766 rfl ?_
                                    refine r_iconst (pc' := 768) C dL_law_767 rfl ?_
                                    refine r_iadd (pc' := 769) C dL_law_768 rfl ?_
                                    refine r_sld (pc' := 770) C hX hbl hbA hL 1 h0 h6 (by decide) hw dL_law_769 rfl ?_
                                    refine r_aloadO_n (pc' := 771) (f4 := 0) (i := 0) C 1 rfl rfl dL_law_770 rfl ?_
                                    refine r_iload_n (pc' := 772) (f4 := 3) (i := 3) C 0 rfl rfl dL_law_771 rfl ?_
                                    refine r_iconst (pc' := 773) C dL_law_772 rfl ?_
                                    refine r_iadd (pc' := 774) C dL_law_773 rfl ?_
                                    refine r_sld (pc' := 775) C hX hbl hbA hL 2 h0 h6 (by decide) hw dL_law_774 rfl ?_
                                    obtain ⟨q44, hq44, hf⟩ := bind_in hf
                                    refine q_callV (pc' := 778) C (t_m_odds hF hq44) rfl (K_193 hF) cl_12 wv_RL_87 ⟨Nat.le_of_ble_eq_true rfl, Nat.le_of_ble_eq_true rfl⟩ rfl rfl (Nat.le_of_ble_eq_true rfl) dL_law_775 rfl ⟨by show (_ : Nat) ≤ 600000; omega, by show (_ : Nat) ≤ 7302250; omega⟩ ?_
                                    refine r_lcmp (pc' := 779) C dL_law_778 rfl ?_
                                    refine r_if_eq (pc' := 782) (tgt := 1314) C rfl hf dL_law_779 (by decide) rfl (fun hf => ?_) (fun hf => ?_)
                                    · cases hf
                                      refine r_iinc (pc' := 1317) (i := 3) (L' := [(3, zI (i + 6)), (0, .ref b), (1, zP bs 0), (2, zP bs 193)]) C 0 rfl (by decide) rfl dL_law_1314 rfl ?_
                                      refine r_goto (tgt := 18) C dL_law_1317 (by decide) ?_
                                      exact V.wide (k := cells + 20) (n := slots + 300) (by omega) (by omega) kk
                                    · refine r_iconst (pc' := 783) C dL_law_782 rfl ?_
                                      cases hf
                                  · rw [if_neg cs16] at hf
                                    by_cases cs17 : ww (zand (w 0) 63) = 17
                                    · rw [if_pos cs17] at hf
                                      refine r_tsIn (tgt := 784) C 17 cs17 dL_law_33 (by decide) (by decide) rfl (by decide) ?_
                                      refine r_aload_n (pc' := 785) (f4 := 1) (i := 1) C 2 rfl rfl dL_law_784 rfl ?_
                                      refine r_aloadO_n (pc' := 786) (f4 := 0) (i := 0) C 1 rfl rfl dL_law_785 rfl ?_
                                      refine r_iload_n (pc' := 787) (f4 := 3) (i := 3) C 0 rfl rfl dL_law_786 rfl ?_
                                      refine r_iconst (pc' := 788) C dL_law_787 rfl ?_
                                      refine r_iadd (pc' := 789) C dL_law_788 rfl ?_
                                      refine r_sld (pc' := 790) C hX hbl hbA hL 1 h0 h6 (by decide) hw dL_law_789 rfl ?_
                                      refine r_aloadO_n (pc' := 791) (f4 := 0) (i := 0) C 1 rfl rfl dL_law_790 rfl ?_
                                      refine r_iload_n (pc' := 792) (f4 := 3) (i := 3) C 0 rfl rfl dL_law_791 rfl ?_
                                      refine r_iconst (pc' := 793) C dL_law_792 rfl ?_
                                      refine r_iadd (pc' := 794) C dL_law_793 rfl ?_
                                      refine r_sld (pc' := 795) C hX hbl hbA hL 2 h0 h6 (by decide) hw dL_law_794 rfl ?_
                                      obtain ⟨q45, hq45, hf⟩ := bind_in hf
                                      refine q_callV (pc' := 798) C (t_x_mean hF hq45) rfl (K_0 hF) cl_11 wv_RL_88 ⟨Nat.le_of_ble_eq_true rfl, Nat.le_of_ble_eq_true rfl⟩ rfl rfl (Nat.le_of_ble_eq_true rfl) dL_law_795 rfl ⟨by show (_ : Nat) ≤ 600000; omega, by show (_ : Nat) ≤ 7302250; omega⟩ ?_
                                      refine r_aload_n (pc' := 799) (f4 := 2) (i := 2) C 3 rfl rfl dL_law_798 rfl ?_
                                      refine r_aloadO_n (pc' := 800) (f4 := 0) (i := 0) C 1 rfl rfl dL_law_799 rfl ?_
                                      refine r_iload_n (pc' := 801) (f4 := 3) (i := 3) C 0 rfl rfl dL_law_800 rfl ?_
                                      refine r_iconst (pc' := 802) C dL_law_801 rfl ?_
                                      refine r_iadd (pc' := 803) C dL_law_802 rfl ?_
                                      refine r_sld (pc' := 804) C hX hbl hbA hL 1 h0 h6 (by decide) hw dL_law_803 rfl ?_
                                      refine r_aloadO_n (pc' := 805) (f4 := 0) (i := 0) C 1 rfl rfl dL_law_804 rfl ?_
                                      refine r_iload_n (pc' := 806) (f4 := 3) (i := 3) C 0 rfl rfl dL_law_805 rfl ?_
                                      refine r_iconst (pc' := 807) C dL_law_806 rfl ?_
                                      refine r_iadd (pc' := 808) C dL_law_807 rfl ?_
                                      refine r_sld (pc' := 809) C hX hbl hbA hL 2 h0 h6 (by decide) hw dL_law_808 rfl ?_
                                      obtain ⟨q46, hq46, hf⟩ := bind_in hf
                                      refine q_callV (pc' := 812) C (t_m_mean hF hq46) rfl (K_193 hF) cl_12 wv_RL_91 ⟨Nat.le_of_ble_eq_true rfl, Nat.le_of_ble_eq_true rfl⟩ rfl rfl (Nat.le_of_ble_eq_true rfl) dL_law_809 rfl ⟨by show (_ : Nat) ≤ 600000; omega, by show (_ : Nat) ≤ 7302250; omega⟩ ?_
                                      refine r_lcmp (pc' := 813) C dL_law_812 rfl ?_
                                      refine r_if_eq (pc' := 816) (tgt := 1314) C rfl hf dL_law_813 (by decide) rfl (fun hf => ?_) (fun hf => ?_)
                                      · cases hf
                                        refine r_iinc (pc' := 1317) (i := 3) (L' := [(3, zI (i + 6)), (0, .ref b), (1, zP bs 0), (2, zP bs 193)]) C 0 rfl (by decide) rfl dL_law_1314 rfl ?_
                                        refine r_goto (tgt := 18) C dL_law_1317 (by decide) ?_
                                        exact V.wide (k := cells + 20) (n := slots + 300) (by omega) (by omega) kk
                                      · refine r_iconst (pc' := 817) C dL_law_816 rfl ?_
                                        cases hf
                                    · rw [if_neg cs17] at hf
                                      by_cases cs18 : ww (zand (w 0) 63) = 18
                                      · rw [if_pos cs18] at hf
                                        refine r_tsIn (tgt := 818) C 18 cs18 dL_law_33 (by decide) (by decide) rfl (by decide) ?_
                                        refine r_aload_n (pc' := 819) (f4 := 1) (i := 1) C 2 rfl rfl dL_law_818 rfl ?_
                                        refine r_aloadO_n (pc' := 820) (f4 := 0) (i := 0) C 1 rfl rfl dL_law_819 rfl ?_
                                        refine r_iload_n (pc' := 821) (f4 := 3) (i := 3) C 0 rfl rfl dL_law_820 rfl ?_
                                        refine r_iconst (pc' := 822) C dL_law_821 rfl ?_
                                        refine r_iadd (pc' := 823) C dL_law_822 rfl ?_
                                        refine r_sld (pc' := 824) C hX hbl hbA hL 1 h0 h6 (by decide) hw dL_law_823 rfl ?_
                                        refine r_aloadO_n (pc' := 825) (f4 := 0) (i := 0) C 1 rfl rfl dL_law_824 rfl ?_
                                        refine r_iload_n (pc' := 826) (f4 := 3) (i := 3) C 0 rfl rfl dL_law_825 rfl ?_
                                        refine r_iconst (pc' := 827) C dL_law_826 rfl ?_
                                        refine r_iadd (pc' := 828) C dL_law_827 rfl ?_
                                        refine r_sld (pc' := 829) C hX hbl hbA hL 2 h0 h6 (by decide) hw dL_law_828 rfl ?_
                                        obtain ⟨q47, hq47, hf⟩ := bind_in hf
                                        refine q_callV (pc' := 832) C (t_x_plan hF hq47) rfl (K_0 hF) cl_11 wv_RL_92 ⟨Nat.le_of_ble_eq_true rfl, Nat.le_of_ble_eq_true rfl⟩ rfl rfl (Nat.le_of_ble_eq_true rfl) dL_law_829 rfl ⟨by show (_ : Nat) ≤ 600000; omega, by show (_ : Nat) ≤ 7302250; omega⟩ ?_
                                        refine r_aload_n (pc' := 833) (f4 := 2) (i := 2) C 3 rfl rfl dL_law_832 rfl ?_
                                        refine r_aloadO_n (pc' := 834) (f4 := 0) (i := 0) C 1 rfl rfl dL_law_833 rfl ?_
                                        refine r_iload_n (pc' := 835) (f4 := 3) (i := 3) C 0 rfl rfl dL_law_834 rfl ?_
                                        refine r_iconst (pc' := 836) C dL_law_835 rfl ?_
                                        refine r_iadd (pc' := 837) C dL_law_836 rfl ?_
                                        refine r_sld (pc' := 838) C hX hbl hbA hL 1 h0 h6 (by decide) hw dL_law_837 rfl ?_
                                        refine r_aloadO_n (pc' := 839) (f4 := 0) (i := 0) C 1 rfl rfl dL_law_838 rfl ?_
                                        refine r_iload_n (pc' := 840) (f4 := 3) (i := 3) C 0 rfl rfl dL_law_839 rfl ?_
                                        refine r_iconst (pc' := 841) C dL_law_840 rfl ?_
                                        refine r_iadd (pc' := 842) C dL_law_841 rfl ?_
                                        refine r_sld (pc' := 843) C hX hbl hbA hL 2 h0 h6 (by decide) hw dL_law_842 rfl ?_
                                        obtain ⟨q48, hq48, hf⟩ := bind_in hf
                                        refine q_callV (pc' := 846) C (t_m_plan hF hq48) rfl (K_193 hF) cl_12 wv_RL_95 ⟨Nat.le_of_ble_eq_true rfl, Nat.le_of_ble_eq_true rfl⟩ rfl rfl (Nat.le_of_ble_eq_true rfl) dL_law_843 rfl ⟨by show (_ : Nat) ≤ 600000; omega, by show (_ : Nat) ≤ 7302250; omega⟩ ?_
                                        refine r_icmp_eq (pc' := 849) (tgt := 1314) C rfl rfl hf dL_law_846 (by decide) rfl (fun hf => ?_) (fun hf => ?_)
                                        · cases hf
                                          refine r_iinc (pc' := 1317) (i := 3) (L' := [(3, zI (i + 6)), (0, .ref b), (1, zP bs 0), (2, zP bs 193)]) C 0 rfl (by decide) rfl dL_law_1314 rfl ?_
                                          refine r_goto (tgt := 18) C dL_law_1317 (by decide) ?_
                                          exact V.wide (k := cells + 20) (n := slots + 300) (by omega) (by omega) kk
                                        · refine r_iconst (pc' := 850) C dL_law_849 rfl ?_
                                          cases hf
                                      · rw [if_neg cs18] at hf
                                        by_cases cs19 : ww (zand (w 0) 63) = 19
                                        · rw [if_pos cs19] at hf
                                          refine r_tsIn (tgt := 851) C 19 cs19 dL_law_33 (by decide) (by decide) rfl (by decide) ?_
                                          refine r_aload_n (pc' := 852) (f4 := 1) (i := 1) C 2 rfl rfl dL_law_851 rfl ?_
                                          refine r_aloadO_n (pc' := 853) (f4 := 0) (i := 0) C 1 rfl rfl dL_law_852 rfl ?_
                                          refine r_iload_n (pc' := 854) (f4 := 3) (i := 3) C 0 rfl rfl dL_law_853 rfl ?_
                                          refine r_iconst (pc' := 855) C dL_law_854 rfl ?_
                                          refine r_iadd (pc' := 856) C dL_law_855 rfl ?_
                                          refine r_sld (pc' := 857) C hX hbl hbA hL 1 h0 h6 (by decide) hw dL_law_856 rfl ?_
                                          obtain ⟨q49, hq49, hf⟩ := bind_in hf
                                          refine q_callV (pc' := 860) C (t_x_ends hF hq49) rfl (K_0 hF) cl_11 wv_RL_96 ⟨Nat.le_of_ble_eq_true rfl, Nat.le_of_ble_eq_true rfl⟩ rfl rfl (Nat.le_of_ble_eq_true rfl) dL_law_857 rfl ⟨by show (_ : Nat) ≤ 600000; omega, by show (_ : Nat) ≤ 7302250; omega⟩ ?_
                                          refine r_aload_n (pc' := 861) (f4 := 2) (i := 2) C 3 rfl rfl dL_law_860 rfl ?_
                                          refine r_aloadO_n (pc' := 862) (f4 := 0) (i := 0) C 1 rfl rfl dL_law_861 rfl ?_
                                          refine r_iload_n (pc' := 863) (f4 := 3) (i := 3) C 0 rfl rfl dL_law_862 rfl ?_
                                          refine r_iconst (pc' := 864) C dL_law_863 rfl ?_
                                          refine r_iadd (pc' := 865) C dL_law_864 rfl ?_
                                          refine r_sld (pc' := 866) C hX hbl hbA hL 1 h0 h6 (by decide) hw dL_law_865 rfl ?_
                                          obtain ⟨q50, hq50, hf⟩ := bind_in hf
                                          refine q_callV (pc' := 869) C (t_m_ends hF hq50) rfl (K_193 hF) cl_12 wv_RL_99 ⟨Nat.le_of_ble_eq_true rfl, Nat.le_of_ble_eq_true rfl⟩ rfl rfl (Nat.le_of_ble_eq_true rfl) dL_law_866 rfl ⟨by show (_ : Nat) ≤ 600000; omega, by show (_ : Nat) ≤ 7302250; omega⟩ ?_
                                          refine r_icmp_eq (pc' := 872) (tgt := 1314) C rfl rfl hf dL_law_869 (by decide) rfl (fun hf => ?_) (fun hf => ?_)
                                          · cases hf
                                            refine r_iinc (pc' := 1317) (i := 3) (L' := [(3, zI (i + 6)), (0, .ref b), (1, zP bs 0), (2, zP bs 193)]) C 0 rfl (by decide) rfl dL_law_1314 rfl ?_
                                            refine r_goto (tgt := 18) C dL_law_1317 (by decide) ?_
                                            exact V.wide (k := cells + 20) (n := slots + 300) (by omega) (by omega) kk
                                          · refine r_iconst (pc' := 873) C dL_law_872 rfl ?_
                                            cases hf
                                        · rw [if_neg cs19] at hf
                                          by_cases cs20 : ww (zand (w 0) 63) = 20
                                          · rw [if_pos cs20] at hf
                                            refine r_tsIn (tgt := 874) C 20 cs20 dL_law_33 (by decide) (by decide) rfl (by decide) ?_
                                            refine r_aload_n (pc' := 875) (f4 := 1) (i := 1) C 2 rfl rfl dL_law_874 rfl ?_
                                            refine r_aloadO_n (pc' := 876) (f4 := 0) (i := 0) C 1 rfl rfl dL_law_875 rfl ?_
                                            refine r_iload_n (pc' := 877) (f4 := 3) (i := 3) C 0 rfl rfl dL_law_876 rfl ?_
                                            refine r_iconst (pc' := 878) C dL_law_877 rfl ?_
                                            refine r_iadd (pc' := 879) C dL_law_878 rfl ?_
                                            refine r_sld (pc' := 880) C hX hbl hbA hL 1 h0 h6 (by decide) hw dL_law_879 rfl ?_
                                            refine r_aloadO_n (pc' := 881) (f4 := 0) (i := 0) C 1 rfl rfl dL_law_880 rfl ?_
                                            refine r_iload_n (pc' := 882) (f4 := 3) (i := 3) C 0 rfl rfl dL_law_881 rfl ?_
                                            refine r_iconst (pc' := 883) C dL_law_882 rfl ?_
                                            refine r_iadd (pc' := 884) C dL_law_883 rfl ?_
                                            refine r_sld (pc' := 885) C hX hbl hbA hL 2 h0 h6 (by decide) hw dL_law_884 rfl ?_
                                            obtain ⟨q51, hq51, hf⟩ := bind_in hf
                                            refine q_callV (pc' := 888) C (t_x_book hF hq51) rfl (K_0 hF) cl_11 wv_RL_100 ⟨Nat.le_of_ble_eq_true rfl, Nat.le_of_ble_eq_true rfl⟩ rfl rfl (Nat.le_of_ble_eq_true rfl) dL_law_885 rfl ⟨by show (_ : Nat) ≤ 600000; omega, by show (_ : Nat) ≤ 7302250; omega⟩ ?_
                                            refine r_aload_n (pc' := 889) (f4 := 2) (i := 2) C 3 rfl rfl dL_law_888 rfl ?_
                                            refine r_aloadO_n (pc' := 890) (f4 := 0) (i := 0) C 1 rfl rfl dL_law_889 rfl ?_
                                            refine r_iload_n (pc' := 891) (f4 := 3) (i := 3) C 0 rfl rfl dL_law_890 rfl ?_
                                            refine r_iconst (pc' := 892) C dL_law_891 rfl ?_
                                            refine r_iadd (pc' := 893) C dL_law_892 rfl ?_
                                            refine r_sld (pc' := 894) C hX hbl hbA hL 1 h0 h6 (by decide) hw dL_law_893 rfl ?_
                                            refine r_aloadO_n (pc' := 895) (f4 := 0) (i := 0) C 1 rfl rfl dL_law_894 rfl ?_
                                            refine r_iload_n (pc' := 896) (f4 := 3) (i := 3) C 0 rfl rfl dL_law_895 rfl ?_
                                            refine r_iconst (pc' := 897) C dL_law_896 rfl ?_
                                            refine r_iadd (pc' := 898) C dL_law_897 rfl ?_
                                            refine r_sld (pc' := 899) C hX hbl hbA hL 2 h0 h6 (by decide) hw dL_law_898 rfl ?_
                                            obtain ⟨q52, hq52, hf⟩ := bind_in hf
                                            refine q_callV (pc' := 902) C (t_m_book hF hq52) rfl (K_193 hF) cl_12 wv_RL_103 ⟨Nat.le_of_ble_eq_true rfl, Nat.le_of_ble_eq_true rfl⟩ rfl rfl (Nat.le_of_ble_eq_true rfl) dL_law_899 rfl ⟨by show (_ : Nat) ≤ 600000; omega, by show (_ : Nat) ≤ 7302250; omega⟩ ?_
                                            refine r_icmp_eq (pc' := 905) (tgt := 1314) C rfl rfl hf dL_law_902 (by decide) rfl (fun hf => ?_) (fun hf => ?_)
                                            · cases hf
                                              refine r_iinc (pc' := 1317) (i := 3) (L' := [(3, zI (i + 6)), (0, .ref b), (1, zP bs 0), (2, zP bs 193)]) C 0 rfl (by decide) rfl dL_law_1314 rfl ?_
                                              refine r_goto (tgt := 18) C dL_law_1317 (by decide) ?_
                                              exact V.wide (k := cells + 20) (n := slots + 300) (by omega) (by omega) kk
                                            · refine r_iconst (pc' := 906) C dL_law_905 rfl ?_
                                              cases hf
                                          · rw [if_neg cs20] at hf
                                            by_cases cs21 : ww (zand (w 0) 63) = 21
                                            · rw [if_pos cs21] at hf
                                              refine r_tsIn (tgt := 907) C 21 cs21 dL_law_33 (by decide) (by decide) rfl (by decide) ?_
                                              refine r_aload_n (pc' := 908) (f4 := 1) (i := 1) C 2 rfl rfl dL_law_907 rfl ?_
                                              obtain ⟨q53, hq53, hf⟩ := bind_in hf
                                              refine q_callV (pc' := 911) C (t_x_looked hF hq53) rfl (K_0 hF) cl_11 wv_RL_104 ⟨Nat.le_of_ble_eq_true rfl, Nat.le_of_ble_eq_true rfl⟩ rfl rfl (Nat.le_of_ble_eq_true rfl) dL_law_908 rfl ⟨by show (_ : Nat) ≤ 600000; omega, by show (_ : Nat) ≤ 7302250; omega⟩ ?_
                                              refine r_aload_n (pc' := 912) (f4 := 2) (i := 2) C 3 rfl rfl dL_law_911 rfl ?_
                                              obtain ⟨q54, hq54, hf⟩ := bind_in hf
                                              refine q_callV (pc' := 915) C (t_m_looked hF hq54) rfl (K_193 hF) cl_12 wv_RL_107 ⟨Nat.le_of_ble_eq_true rfl, Nat.le_of_ble_eq_true rfl⟩ rfl rfl (Nat.le_of_ble_eq_true rfl) dL_law_912 rfl ⟨by show (_ : Nat) ≤ 600000; omega, by show (_ : Nat) ≤ 7302250; omega⟩ ?_
                                              refine r_icmp_eq (pc' := 918) (tgt := 1314) C rfl rfl hf dL_law_915 (by decide) rfl (fun hf => ?_) (fun hf => ?_)
                                              · cases hf
                                                refine r_iinc (pc' := 1317) (i := 3) (L' := [(3, zI (i + 6)), (0, .ref b), (1, zP bs 0), (2, zP bs 193)]) C 0 rfl (by decide) rfl dL_law_1314 rfl ?_
                                                refine r_goto (tgt := 18) C dL_law_1317 (by decide) ?_
                                                exact V.wide (k := cells + 20) (n := slots + 300) (by omega) (by omega) kk
                                              · refine r_iconst (pc' := 919) C dL_law_918 rfl ?_
                                                cases hf
                                            · rw [if_neg cs21] at hf
                                              by_cases cs22 : ww (zand (w 0) 63) = 22
                                              · rw [if_pos cs22] at hf
                                                refine r_tsIn (tgt := 920) C 22 cs22 dL_law_33 (by decide) (by decide) rfl (by decide) ?_
                                                refine r_aload_n (pc' := 921) (f4 := 1) (i := 1) C 2 rfl rfl dL_law_920 rfl ?_
                                                refine r_aloadO_n (pc' := 922) (f4 := 0) (i := 0) C 1 rfl rfl dL_law_921 rfl ?_
                                                refine r_iload_n (pc' := 923) (f4 := 3) (i := 3) C 0 rfl rfl dL_law_922 rfl ?_
                                                refine r_iconst (pc' := 924) C dL_law_923 rfl ?_
                                                refine r_iadd (pc' := 925) C dL_law_924 rfl ?_
                                                refine r_sld (pc' := 926) C hX hbl hbA hL 1 h0 h6 (by decide) hw dL_law_925 rfl ?_
                                                refine r_aloadO_n (pc' := 927) (f4 := 0) (i := 0) C 1 rfl rfl dL_law_926 rfl ?_
                                                refine r_iload_n (pc' := 928) (f4 := 3) (i := 3) C 0 rfl rfl dL_law_927 rfl ?_
                                                refine r_iconst (pc' := 929) C dL_law_928 rfl ?_
                                                refine r_iadd (pc' := 930) C dL_law_929 rfl ?_
                                                refine r_sld (pc' := 931) C hX hbl hbA hL 2 h0 h6 (by decide) hw dL_law_930 rfl ?_
                                                obtain ⟨q55, hq55, hf⟩ := bind_in hf
                                                refine q_callV (pc' := 934) C (t_x_judge hF hq55) rfl (K_0 hF) cl_11 wv_RL_108 ⟨Nat.le_of_ble_eq_true rfl, Nat.le_of_ble_eq_true rfl⟩ rfl rfl (Nat.le_of_ble_eq_true rfl) dL_law_931 rfl ⟨by show (_ : Nat) ≤ 600000; omega, by show (_ : Nat) ≤ 7302250; omega⟩ ?_
                                                refine r_aload_n (pc' := 935) (f4 := 2) (i := 2) C 3 rfl rfl dL_law_934 rfl ?_
                                                refine r_aloadO_n (pc' := 936) (f4 := 0) (i := 0) C 1 rfl rfl dL_law_935 rfl ?_
                                                refine r_iload_n (pc' := 937) (f4 := 3) (i := 3) C 0 rfl rfl dL_law_936 rfl ?_
                                                refine r_iconst (pc' := 938) C dL_law_937 rfl ?_
                                                refine r_iadd (pc' := 939) C dL_law_938 rfl ?_
                                                refine r_sld (pc' := 940) C hX hbl hbA hL 1 h0 h6 (by decide) hw dL_law_939 rfl ?_
                                                refine r_aloadO_n (pc' := 941) (f4 := 0) (i := 0) C 1 rfl rfl dL_law_940 rfl ?_
                                                refine r_iload_n (pc' := 942) (f4 := 3) (i := 3) C 0 rfl rfl dL_law_941 rfl ?_
                                                refine r_iconst (pc' := 943) C dL_law_942 rfl ?_
                                                refine r_iadd (pc' := 944) C dL_law_943 rfl ?_
                                                refine r_sld (pc' := 945) C hX hbl hbA hL 2 h0 h6 (by decide) hw dL_law_944 rfl ?_
                                                obtain ⟨q56, hq56, hf⟩ := bind_in hf
                                                refine q_callV (pc' := 948) C (t_m_judge hF hq56) rfl (K_193 hF) cl_12 wv_RL_111 ⟨Nat.le_of_ble_eq_true rfl, Nat.le_of_ble_eq_true rfl⟩ rfl rfl (Nat.le_of_ble_eq_true rfl) dL_law_945 rfl ⟨by show (_ : Nat) ≤ 600000; omega, by show (_ : Nat) ≤ 7302250; omega⟩ ?_
                                                refine r_icmp_eq (pc' := 951) (tgt := 1314) C rfl rfl hf dL_law_948 (by decide) rfl (fun hf => ?_) (fun hf => ?_)
                                                · cases hf
                                                  refine r_iinc (pc' := 1317) (i := 3) (L' := [(3, zI (i + 6)), (0, .ref b), (1, zP bs 0), (2, zP bs 193)]) C 0 rfl (by decide) rfl dL_law_1314 rfl ?_
                                                  refine r_goto (tgt := 18) C dL_law_1317 (by decide) ?_
                                                  exact V.wide (k := cells + 20) (n := slots + 300) (by omega) (by omega) kk
                                                · refine r_iconst (pc' := 952) C dL_law_951 rfl ?_
                                                  cases hf
                                              · rw [if_neg cs22] at hf
                                                by_cases cs23 : ww (zand (w 0) 63) = 23
                                                · rw [if_pos cs23] at hf
                                                  refine r_tsIn (tgt := 953) C 23 cs23 dL_law_33 (by decide) (by decide) rfl (by decide) ?_
                                                  refine r_aload_n (pc' := 954) (f4 := 1) (i := 1) C 2 rfl rfl dL_law_953 rfl ?_
                                                  obtain ⟨q57, hq57, hf⟩ := bind_in hf
                                                  refine q_callV (pc' := 957) C (t_x_image hF hq57) rfl (K_0 hF) cl_11 wv_RL_112 ⟨Nat.le_of_ble_eq_true rfl, Nat.le_of_ble_eq_true rfl⟩ rfl rfl (Nat.le_of_ble_eq_true rfl) dL_law_954 rfl ⟨by show (_ : Nat) ≤ 600000; omega, by show (_ : Nat) ≤ 7302250; omega⟩ ?_
                                                  refine r_aload_n (pc' := 958) (f4 := 2) (i := 2) C 3 rfl rfl dL_law_957 rfl ?_
                                                  obtain ⟨q58, hq58, hf⟩ := bind_in hf
                                                  refine q_callV (pc' := 961) C (t_m_image hF hq58) rfl (K_193 hF) cl_12 wv_RL_115 ⟨Nat.le_of_ble_eq_true rfl, Nat.le_of_ble_eq_true rfl⟩ rfl rfl (Nat.le_of_ble_eq_true rfl) dL_law_958 rfl ⟨by show (_ : Nat) ≤ 600000; omega, by show (_ : Nat) ≤ 7302250; omega⟩ ?_
                                                  refine r_icmp_eq (pc' := 964) (tgt := 1314) C rfl rfl hf dL_law_961 (by decide) rfl (fun hf => ?_) (fun hf => ?_)
                                                  · cases hf
                                                    refine r_iinc (pc' := 1317) (i := 3) (L' := [(3, zI (i + 6)), (0, .ref b), (1, zP bs 0), (2, zP bs 193)]) C 0 rfl (by decide) rfl dL_law_1314 rfl ?_
                                                    refine r_goto (tgt := 18) C dL_law_1317 (by decide) ?_
                                                    exact V.wide (k := cells + 20) (n := slots + 300) (by omega) (by omega) kk
                                                  · refine r_iconst (pc' := 965) C dL_law_964 rfl ?_
                                                    cases hf
                                                · rw [if_neg cs23] at hf
                                                  by_cases cs24 : ww (zand (w 0) 63) = 24
                                                  · rw [if_pos cs24] at hf
                                                    refine r_tsIn (tgt := 966) C 24 cs24 dL_law_33 (by decide) (by decide) rfl (by decide) ?_
                                                    refine r_aload_n (pc' := 967) (f4 := 1) (i := 1) C 2 rfl rfl dL_law_966 rfl ?_
                                                    obtain ⟨q59, hq59, hf⟩ := bind_in hf
                                                    refine q_callV (pc' := 970) C (t_x_undo hF hq59) rfl (K_0 hF) cl_11 wv_RL_116 ⟨Nat.le_of_ble_eq_true rfl, Nat.le_of_ble_eq_true rfl⟩ rfl rfl (Nat.le_of_ble_eq_true rfl) dL_law_967 rfl ⟨by show (_ : Nat) ≤ 600000; omega, by show (_ : Nat) ≤ 7302250; omega⟩ ?_
                                                    refine r_aload_n (pc' := 971) (f4 := 2) (i := 2) C 3 rfl rfl dL_law_970 rfl ?_
                                                    obtain ⟨q60, hq60, hf⟩ := bind_in hf
                                                    refine q_callV (pc' := 974) C (t_m_undo hF hq60) rfl (K_193 hF) cl_12 wv_RL_119 ⟨Nat.le_of_ble_eq_true rfl, Nat.le_of_ble_eq_true rfl⟩ rfl rfl (Nat.le_of_ble_eq_true rfl) dL_law_971 rfl ⟨by show (_ : Nat) ≤ 600000; omega, by show (_ : Nat) ≤ 7302250; omega⟩ ?_
                                                    refine r_icmp_eq (pc' := 977) (tgt := 1314) C rfl rfl hf dL_law_974 (by decide) rfl (fun hf => ?_) (fun hf => ?_)
                                                    · cases hf
                                                      refine r_iinc (pc' := 1317) (i := 3) (L' := [(3, zI (i + 6)), (0, .ref b), (1, zP bs 0), (2, zP bs 193)]) C 0 rfl (by decide) rfl dL_law_1314 rfl ?_
                                                      refine r_goto (tgt := 18) C dL_law_1317 (by decide) ?_
                                                      exact V.wide (k := cells + 20) (n := slots + 300) (by omega) (by omega) kk
                                                    · refine r_iconst (pc' := 978) C dL_law_977 rfl ?_
                                                      cases hf
                                                  · rw [if_neg cs24] at hf
                                                    by_cases cs25 : ww (zand (w 0) 63) = 25
                                                    · rw [if_pos cs25] at hf
                                                      refine r_tsIn (tgt := 979) C 25 cs25 dL_law_33 (by decide) (by decide) rfl (by decide) ?_
                                                      refine r_aload_n (pc' := 980) (f4 := 1) (i := 1) C 2 rfl rfl dL_law_979 rfl ?_
                                                      refine r_aloadO_n (pc' := 981) (f4 := 0) (i := 0) C 1 rfl rfl dL_law_980 rfl ?_
                                                      refine r_iload_n (pc' := 982) (f4 := 3) (i := 3) C 0 rfl rfl dL_law_981 rfl ?_
                                                      refine r_iconst (pc' := 983) C dL_law_982 rfl ?_
                                                      refine r_iadd (pc' := 984) C dL_law_983 rfl ?_
                                                      refine r_sld (pc' := 985) C hX hbl hbA hL 1 h0 h6 (by decide) hw dL_law_984 rfl ?_
                                                      refine r_aloadO_n (pc' := 986) (f4 := 0) (i := 0) C 1 rfl rfl dL_law_985 rfl ?_
                                                      refine r_iload_n (pc' := 987) (f4 := 3) (i := 3) C 0 rfl rfl dL_law_986 rfl ?_
                                                      refine r_iconst (pc' := 988) C dL_law_987 rfl ?_
                                                      refine r_iadd (pc' := 989) C dL_law_988 rfl ?_
                                                      refine r_sld (pc' := 990) C hX hbl hbA hL 2 h0 h6 (by decide) hw dL_law_989 rfl ?_
                                                      refine r_aloadO_n (pc' := 991) (f4 := 0) (i := 0) C 1 rfl rfl dL_law_990 rfl ?_
                                                      refine r_iload_n (pc' := 992) (f4 := 3) (i := 3) C 0 rfl rfl dL_law_991 rfl ?_
                                                      refine r_iconst (pc' := 993) C dL_law_992 rfl ?_
                                                      refine r_iadd (pc' := 994) C dL_law_993 rfl ?_
                                                      refine r_sld (pc' := 995) C hX hbl hbA hL 3 h0 h6 (by decide) hw dL_law_994 rfl ?_
                                                      obtain ⟨q61, hq61, hf⟩ := bind_in hf
                                                      refine r_callVD (n := 3) (ci := 11) (pc' := 998) C (t_x_act hF hq61).toD rfl (K_0 hF) cl_11 wv_RL_120 ⟨Nat.le_of_ble_eq_true rfl, Nat.le_of_ble_eq_true rfl⟩ rfl rfl (Nat.le_of_ble_eq_true rfl) dL_law_995 rfl ⟨by show (_ : Nat) ≤ 600000; omega, by show (_ : Nat) ≤ 7302250; omega⟩ ?_
                                                      obtain ⟨hx62, hf⟩ := ckX_in hf
                                                      have hF := hF.ext hx62
                                                      refine r_aload_n (pc' := 999) (f4 := 2) (i := 2) C 3 rfl rfl dL_law_998 rfl ?_
                                                      refine r_aloadO_n (pc' := 1000) (f4 := 0) (i := 0) C 1 rfl rfl dL_law_999 rfl ?_
                                                      refine r_iload_n (pc' := 1001) (f4 := 3) (i := 3) C 0 rfl rfl dL_law_1000 rfl ?_
                                                      refine r_iconst (pc' := 1002) C dL_law_1001 rfl ?_
                                                      refine r_iadd (pc' := 1003) C dL_law_1002 rfl ?_
                                                      refine r_sld (pc' := 1004) C hX hbl hbA hL 1 h0 h6 (by decide) hw dL_law_1003 rfl ?_
                                                      refine r_aloadO_n (pc' := 1005) (f4 := 0) (i := 0) C 1 rfl rfl dL_law_1004 rfl ?_
                                                      refine r_iload_n (pc' := 1006) (f4 := 3) (i := 3) C 0 rfl rfl dL_law_1005 rfl ?_
                                                      refine r_iconst (pc' := 1007) C dL_law_1006 rfl ?_
                                                      refine r_iadd (pc' := 1008) C dL_law_1007 rfl ?_
                                                      refine r_sld (pc' := 1009) C hX hbl hbA hL 2 h0 h6 (by decide) hw dL_law_1008 rfl ?_
                                                      refine r_aloadO_n (pc' := 1010) (f4 := 0) (i := 0) C 1 rfl rfl dL_law_1009 rfl ?_
                                                      refine r_iload_n (pc' := 1011) (f4 := 3) (i := 3) C 0 rfl rfl dL_law_1010 rfl ?_
                                                      refine r_iconst (pc' := 1012) C dL_law_1011 rfl ?_
                                                      refine r_iadd (pc' := 1013) C dL_law_1012 rfl ?_
                                                      refine r_sld (pc' := 1014) C hX hbl hbA hL 3 h0 h6 (by decide) hw dL_law_1013 rfl ?_
                                                      obtain ⟨q63, hq63, hf⟩ := bind_in hf
                                                      refine q_callV (pc' := 1017) C (t_m_act hF hq63) rfl (K_193 hF) cl_12 wv_RL_123 ⟨Nat.le_of_ble_eq_true rfl, Nat.le_of_ble_eq_true rfl⟩ rfl rfl (Nat.le_of_ble_eq_true rfl) dL_law_1014 rfl ⟨by show (_ : Nat) ≤ 600000; omega, by show (_ : Nat) ≤ 7302250; omega⟩ ?_
                                                      refine r_icmp_eq (pc' := 1020) (tgt := 1314) C rfl rfl hf dL_law_1017 (by decide) rfl (fun hf => ?_) (fun hf => ?_)
                                                      · cases hf
                                                        refine r_iinc (pc' := 1317) (i := 3) (L' := [(3, zI (i + 6)), (0, .ref b), (1, zP bs 0), (2, zP bs 193)]) C 0 rfl (by decide) rfl dL_law_1314 rfl ?_
                                                        refine r_goto (tgt := 18) C dL_law_1317 (by decide) ?_
                                                        exact V.wide (k := cells + 20) (n := slots + 300) (by omega) (by omega) kk
                                                      · refine r_iconst (pc' := 1021) C dL_law_1020 rfl ?_
                                                        cases hf
                                                    · rw [if_neg cs25] at hf
                                                      by_cases cs26 : ww (zand (w 0) 63) = 26
                                                      · rw [if_pos cs26] at hf
                                                        refine r_tsIn (tgt := 1022) C 26 cs26 dL_law_33 (by decide) (by decide) rfl (by decide) ?_
                                                        refine r_aload_n (pc' := 1023) (f4 := 1) (i := 1) C 2 rfl rfl dL_law_1022 rfl ?_
                                                        refine r_aloadO_n (pc' := 1024) (f4 := 0) (i := 0) C 1 rfl rfl dL_law_1023 rfl ?_
                                                        refine r_iload_n (pc' := 1025) (f4 := 3) (i := 3) C 0 rfl rfl dL_law_1024 rfl ?_
                                                        refine r_iconst (pc' := 1026) C dL_law_1025 rfl ?_
                                                        refine r_iadd (pc' := 1027) C dL_law_1026 rfl ?_
                                                        refine r_sld (pc' := 1028) C hX hbl hbA hL 1 h0 h6 (by decide) hw dL_law_1027 rfl ?_
                                                        obtain ⟨q64, hq64, hf⟩ := bind_in hf
                                                        refine q_callV (pc' := 1031) C (t_x_trace hF hq64) rfl (K_0 hF) cl_11 wv_RL_124 ⟨Nat.le_of_ble_eq_true rfl, Nat.le_of_ble_eq_true rfl⟩ rfl rfl (Nat.le_of_ble_eq_true rfl) dL_law_1028 rfl ⟨by show (_ : Nat) ≤ 600000; omega, by show (_ : Nat) ≤ 7302250; omega⟩ ?_
                                                        refine r_aload_n (pc' := 1032) (f4 := 2) (i := 2) C 3 rfl rfl dL_law_1031 rfl ?_
                                                        refine r_aloadO_n (pc' := 1033) (f4 := 0) (i := 0) C 1 rfl rfl dL_law_1032 rfl ?_
                                                        refine r_iload_n (pc' := 1034) (f4 := 3) (i := 3) C 0 rfl rfl dL_law_1033 rfl ?_
                                                        refine r_iconst (pc' := 1035) C dL_law_1034 rfl ?_
                                                        refine r_iadd (pc' := 1036) C dL_law_1035 rfl ?_
                                                        refine r_sld (pc' := 1037) C hX hbl hbA hL 1 h0 h6 (by decide) hw dL_law_1036 rfl ?_
                                                        obtain ⟨q65, hq65, hf⟩ := bind_in hf
                                                        refine q_callV (pc' := 1040) C (t_m_trace hF hq65) rfl (K_193 hF) cl_12 wv_RL_127 ⟨Nat.le_of_ble_eq_true rfl, Nat.le_of_ble_eq_true rfl⟩ rfl rfl (Nat.le_of_ble_eq_true rfl) dL_law_1037 rfl ⟨by show (_ : Nat) ≤ 600000; omega, by show (_ : Nat) ≤ 7302250; omega⟩ ?_
                                                        refine r_icmp_eq (pc' := 1043) (tgt := 1314) C rfl rfl hf dL_law_1040 (by decide) rfl (fun hf => ?_) (fun hf => ?_)
                                                        · cases hf
                                                          refine r_iinc (pc' := 1317) (i := 3) (L' := [(3, zI (i + 6)), (0, .ref b), (1, zP bs 0), (2, zP bs 193)]) C 0 rfl (by decide) rfl dL_law_1314 rfl ?_
                                                          refine r_goto (tgt := 18) C dL_law_1317 (by decide) ?_
                                                          exact V.wide (k := cells + 20) (n := slots + 300) (by omega) (by omega) kk
                                                        · refine r_iconst (pc' := 1044) C dL_law_1043 rfl ?_
                                                          cases hf
                                                      · rw [if_neg cs26] at hf
                                                        by_cases cs27 : ww (zand (w 0) 63) = 27
                                                        · rw [if_pos cs27] at hf
                                                          refine r_tsIn (tgt := 1045) C 27 cs27 dL_law_33 (by decide) (by decide) rfl (by decide) ?_
                                                          refine r_aload_n (pc' := 1046) (f4 := 1) (i := 1) C 2 rfl rfl dL_law_1045 rfl ?_
                                                          refine r_aloadO_n (pc' := 1047) (f4 := 0) (i := 0) C 1 rfl rfl dL_law_1046 rfl ?_
                                                          refine r_iload_n (pc' := 1048) (f4 := 3) (i := 3) C 0 rfl rfl dL_law_1047 rfl ?_
                                                          refine r_iconst (pc' := 1049) C dL_law_1048 rfl ?_
                                                          refine r_iadd (pc' := 1050) C dL_law_1049 rfl ?_
                                                          refine r_sld (pc' := 1051) C hX hbl hbA hL 1 h0 h6 (by decide) hw dL_law_1050 rfl ?_
                                                          refine r_aloadO_n (pc' := 1052) (f4 := 0) (i := 0) C 1 rfl rfl dL_law_1051 rfl ?_
                                                          refine r_iload_n (pc' := 1053) (f4 := 3) (i := 3) C 0 rfl rfl dL_law_1052 rfl ?_
                                                          refine r_iconst (pc' := 1054) C dL_law_1053 rfl ?_
                                                          refine r_iadd (pc' := 1055) C dL_law_1054 rfl ?_
                                                          refine r_sld (pc' := 1056) C hX hbl hbA hL 2 h0 h6 (by decide) hw dL_law_1055 rfl ?_
                                                          obtain ⟨q66, hq66, hf⟩ := bind_in hf
                                                          refine q_callV (pc' := 1059) C (t_x_taken hF hq66) rfl (K_0 hF) cl_11 wv_RL_128 ⟨Nat.le_of_ble_eq_true rfl, Nat.le_of_ble_eq_true rfl⟩ rfl rfl (Nat.le_of_ble_eq_true rfl) dL_law_1056 rfl ⟨by show (_ : Nat) ≤ 600000; omega, by show (_ : Nat) ≤ 7302250; omega⟩ ?_
                                                          refine r_aload_n (pc' := 1060) (f4 := 2) (i := 2) C 3 rfl rfl dL_law_1059 rfl ?_
                                                          refine r_aloadO_n (pc' := 1061) (f4 := 0) (i := 0) C 1 rfl rfl dL_law_1060 rfl ?_
                                                          refine r_iload_n (pc' := 1062) (f4 := 3) (i := 3) C 0 rfl rfl dL_law_1061 rfl ?_
                                                          refine r_iconst (pc' := 1063) C dL_law_1062 rfl ?_
                                                          refine r_iadd (pc' := 1064) C dL_law_1063 rfl ?_
                                                          refine r_sld (pc' := 1065) C hX hbl hbA hL 1 h0 h6 (by decide) hw dL_law_1064 rfl ?_
                                                          refine r_aloadO_n (pc' := 1066) (f4 := 0) (i := 0) C 1 rfl rfl dL_law_1065 rfl ?_
                                                          refine r_iload_n (pc' := 1067) (f4 := 3) (i := 3) C 0 rfl rfl dL_law_1066 rfl ?_
                                                          refine r_iconst (pc' := 1068) C dL_law_1067 rfl ?_
                                                          refine r_iadd (pc' := 1069) C dL_law_1068 rfl ?_
                                                          refine r_sld (pc' := 1070) C hX hbl hbA hL 2 h0 h6 (by decide) hw dL_law_1069 rfl ?_
                                                          obtain ⟨q67, hq67, hf⟩ := bind_in hf
                                                          refine q_callV (pc' := 1073) C (t_m_taken hF hq67) rfl (K_193 hF) cl_12 wv_RL_131 ⟨Nat.le_of_ble_eq_true rfl, Nat.le_of_ble_eq_true rfl⟩ rfl rfl (Nat.le_of_ble_eq_true rfl) dL_law_1070 rfl ⟨by show (_ : Nat) ≤ 600000; omega, by show (_ : Nat) ≤ 7302250; omega⟩ ?_
                                                          refine r_icmp_eq (pc' := 1076) (tgt := 1314) C rfl rfl hf dL_law_1073 (by decide) rfl (fun hf => ?_) (fun hf => ?_)
                                                          · cases hf
                                                            refine r_iinc (pc' := 1317) (i := 3) (L' := [(3, zI (i + 6)), (0, .ref b), (1, zP bs 0), (2, zP bs 193)]) C 0 rfl (by decide) rfl dL_law_1314 rfl ?_
                                                            refine r_goto (tgt := 18) C dL_law_1317 (by decide) ?_
                                                            exact V.wide (k := cells + 20) (n := slots + 300) (by omega) (by omega) kk
                                                          · refine r_iconst (pc' := 1077) C dL_law_1076 rfl ?_
                                                            cases hf
                                                        · rw [if_neg cs27] at hf
                                                          by_cases cs28 : ww (zand (w 0) 63) = 28
                                                          · rw [if_pos cs28] at hf
                                                            refine r_tsIn (tgt := 1078) C 28 cs28 dL_law_33 (by decide) (by decide) rfl (by decide) ?_
                                                            refine r_aload_n (pc' := 1079) (f4 := 1) (i := 1) C 2 rfl rfl dL_law_1078 rfl ?_
                                                            refine r_aloadO_n (pc' := 1080) (f4 := 0) (i := 0) C 1 rfl rfl dL_law_1079 rfl ?_
                                                            refine r_iload_n (pc' := 1081) (f4 := 3) (i := 3) C 0 rfl rfl dL_law_1080 rfl ?_
                                                            refine r_iconst (pc' := 1082) C dL_law_1081 rfl ?_
                                                            refine r_iadd (pc' := 1083) C dL_law_1082 rfl ?_
                                                            refine r_sld (pc' := 1084) C hX hbl hbA hL 1 h0 h6 (by decide) hw dL_law_1083 rfl ?_
                                                            obtain ⟨q68, hq68, hf⟩ := bind_in hf
                                                            refine q_callV (pc' := 1087) C (t_x_count hF hq68) rfl (K_0 hF) cl_11 wv_RL_132 ⟨Nat.le_of_ble_eq_true rfl, Nat.le_of_ble_eq_true rfl⟩ rfl rfl (Nat.le_of_ble_eq_true rfl) dL_law_1084 rfl ⟨by show (_ : Nat) ≤ 600000; omega, by show (_ : Nat) ≤ 7302250; omega⟩ ?_
                                                            refine r_aload_n (pc' := 1088) (f4 := 2) (i := 2) C 3 rfl rfl dL_law_1087 rfl ?_
                                                            refine r_aloadO_n (pc' := 1089) (f4 := 0) (i := 0) C 1 rfl rfl dL_law_1088 rfl ?_
                                                            refine r_iload_n (pc' := 1090) (f4 := 3) (i := 3) C 0 rfl rfl dL_law_1089 rfl ?_
                                                            refine r_iconst (pc' := 1091) C dL_law_1090 rfl ?_
                                                            refine r_iadd (pc' := 1092) C dL_law_1091 rfl ?_
                                                            refine r_sld (pc' := 1093) C hX hbl hbA hL 1 h0 h6 (by decide) hw dL_law_1092 rfl ?_
                                                            refine q_callV (pc' := 1096) C (t_m_count hF) rfl (K_193 hF) cl_12 wv_RL_135 ⟨Nat.le_of_ble_eq_true rfl, Nat.le_of_ble_eq_true rfl⟩ rfl rfl (Nat.le_of_ble_eq_true rfl) dL_law_1093 rfl ⟨by show (_ : Nat) ≤ 600000; omega, by show (_ : Nat) ≤ 7302250; omega⟩ ?_
                                                            refine r_icmp_eq (pc' := 1099) (tgt := 1314) C rfl rfl hf dL_law_1096 (by decide) rfl (fun hf => ?_) (fun hf => ?_)
                                                            · cases hf
                                                              refine r_iinc (pc' := 1317) (i := 3) (L' := [(3, zI (i + 6)), (0, .ref b), (1, zP bs 0), (2, zP bs 193)]) C 0 rfl (by decide) rfl dL_law_1314 rfl ?_
                                                              refine r_goto (tgt := 18) C dL_law_1317 (by decide) ?_
                                                              exact V.wide (k := cells + 20) (n := slots + 300) (by omega) (by omega) kk
                                                            · refine r_iconst (pc' := 1100) C dL_law_1099 rfl ?_
                                                              cases hf
                                                          · rw [if_neg cs28] at hf
                                                            by_cases cs29 : ww (zand (w 0) 63) = 29
                                                            · rw [if_pos cs29] at hf
                                                              refine r_tsIn (tgt := 1101) C 29 cs29 dL_law_33 (by decide) (by decide) rfl (by decide) ?_
                                                              refine r_aload_n (pc' := 1102) (f4 := 1) (i := 1) C 2 rfl rfl dL_law_1101 rfl ?_
                                                              refine r_aloadO_n (pc' := 1103) (f4 := 0) (i := 0) C 1 rfl rfl dL_law_1102 rfl ?_
                                                              refine r_iload_n (pc' := 1104) (f4 := 3) (i := 3) C 0 rfl rfl dL_law_1103 rfl ?_
                                                              refine r_iconst (pc' := 1105) C dL_law_1104 rfl ?_
                                                              refine r_iadd (pc' := 1106) C dL_law_1105 rfl ?_
                                                              refine r_sld (pc' := 1107) C hX hbl hbA hL 1 h0 h6 (by decide) hw dL_law_1106 rfl ?_
                                                              refine r_aloadO_n (pc' := 1108) (f4 := 0) (i := 0) C 1 rfl rfl dL_law_1107 rfl ?_
                                                              refine r_iload_n (pc' := 1109) (f4 := 3) (i := 3) C 0 rfl rfl dL_law_1108 rfl ?_
                                                              refine r_iconst (pc' := 1110) C dL_law_1109 rfl ?_
                                                              refine r_iadd (pc' := 1111) C dL_law_1110 rfl ?_
                                                              refine r_sld (pc' := 1112) C hX hbl hbA hL 2 h0 h6 (by decide) hw dL_law_1111 rfl ?_
                                                              refine r_aloadO_n (pc' := 1113) (f4 := 0) (i := 0) C 1 rfl rfl dL_law_1112 rfl ?_
                                                              refine r_iload_n (pc' := 1114) (f4 := 3) (i := 3) C 0 rfl rfl dL_law_1113 rfl ?_
                                                              refine r_iconst (pc' := 1115) C dL_law_1114 rfl ?_
                                                              refine r_iadd (pc' := 1116) C dL_law_1115 rfl ?_
                                                              refine r_sld (pc' := 1117) C hX hbl hbA hL 3 h0 h6 (by decide) hw dL_law_1116 rfl ?_
                                                              obtain ⟨q69, hq69, hf⟩ := bind_in hf
                                                              refine q_callV (pc' := 1120) C (t_x_tape hF hq69) rfl (K_0 hF) cl_11 wv_RL_136 ⟨Nat.le_of_ble_eq_true rfl, Nat.le_of_ble_eq_true rfl⟩ rfl rfl (Nat.le_of_ble_eq_true rfl) dL_law_1117 rfl ⟨by show (_ : Nat) ≤ 600000; omega, by show (_ : Nat) ≤ 7302250; omega⟩ ?_
                                                              refine r_aload_n (pc' := 1121) (f4 := 2) (i := 2) C 3 rfl rfl dL_law_1120 rfl ?_
                                                              refine r_aloadO_n (pc' := 1122) (f4 := 0) (i := 0) C 1 rfl rfl dL_law_1121 rfl ?_
                                                              refine r_iload_n (pc' := 1123) (f4 := 3) (i := 3) C 0 rfl rfl dL_law_1122 rfl ?_
                                                              refine r_iconst (pc' := 1124) C dL_law_1123 rfl ?_
                                                              refine r_iadd (pc' := 1125) C dL_law_1124 rfl ?_
                                                              refine r_sld (pc' := 1126) C hX hbl hbA hL 1 h0 h6 (by decide) hw dL_law_1125 rfl ?_
                                                              refine r_aloadO_n (pc' := 1127) (f4 := 0) (i := 0) C 1 rfl rfl dL_law_1126 rfl ?_
                                                              refine r_iload_n (pc' := 1128) (f4 := 3) (i := 3) C 0 rfl rfl dL_law_1127 rfl ?_
                                                              refine r_iconst (pc' := 1129) C dL_law_1128 rfl ?_
                                                              refine r_iadd (pc' := 1130) C dL_law_1129 rfl ?_
                                                              refine r_sld (pc' := 1131) C hX hbl hbA hL 2 h0 h6 (by decide) hw dL_law_1130 rfl ?_
                                                              refine r_aloadO_n (pc' := 1132) (f4 := 0) (i := 0) C 1 rfl rfl dL_law_1131 rfl ?_
                                                              refine r_iload_n (pc' := 1133) (f4 := 3) (i := 3) C 0 rfl rfl dL_law_1132 rfl ?_
                                                              refine r_iconst (pc' := 1134) C dL_law_1133 rfl ?_
                                                              refine r_iadd (pc' := 1135) C dL_law_1134 rfl ?_
                                                              refine r_sld (pc' := 1136) C hX hbl hbA hL 3 h0 h6 (by decide) hw dL_law_1135 rfl ?_
                                                              obtain ⟨q70, hq70, hf⟩ := bind_in hf
                                                              refine q_callV (pc' := 1139) C (t_m_tape hF hq70) rfl (K_193 hF) cl_12 wv_RL_139 ⟨Nat.le_of_ble_eq_true rfl, Nat.le_of_ble_eq_true rfl⟩ rfl rfl (Nat.le_of_ble_eq_true rfl) dL_law_1136 rfl ⟨by show (_ : Nat) ≤ 600000; omega, by show (_ : Nat) ≤ 7302250; omega⟩ ?_
                                                              refine r_icmp_eq (pc' := 1142) (tgt := 1314) C rfl rfl hf dL_law_1139 (by decide) rfl (fun hf => ?_) (fun hf => ?_)
                                                              · cases hf
                                                                refine r_iinc (pc' := 1317) (i := 3) (L' := [(3, zI (i + 6)), (0, .ref b), (1, zP bs 0), (2, zP bs 193)]) C 0 rfl (by decide) rfl dL_law_1314 rfl ?_
                                                                refine r_goto (tgt := 18) C dL_law_1317 (by decide) ?_
                                                                exact V.wide (k := cells + 20) (n := slots + 300) (by omega) (by omega) kk
                                                              · refine r_iconst (pc' := 1143) C dL_law_1142 rfl ?_
                                                                cases hf
                                                            · rw [if_neg cs29] at hf
                                                              by_cases cs30 : ww (zand (w 0) 63) = 30
                                                              · rw [if_pos cs30] at hf
                                                                refine r_tsIn (tgt := 1144) C 30 cs30 dL_law_33 (by decide) (by decide) rfl (by decide) ?_
                                                                refine r_aload_n (pc' := 1145) (f4 := 1) (i := 1) C 2 rfl rfl dL_law_1144 rfl ?_
                                                                refine r_aloadO_n (pc' := 1146) (f4 := 0) (i := 0) C 1 rfl rfl dL_law_1145 rfl ?_
                                                                refine r_iload_n (pc' := 1147) (f4 := 3) (i := 3) C 0 rfl rfl dL_law_1146 rfl ?_
                                                                refine r_iconst (pc' := 1148) C dL_law_1147 rfl ?_
                                                                refine r_iadd (pc' := 1149) C dL_law_1148 rfl ?_
                                                                refine r_sld (pc' := 1150) C hX hbl hbA hL 1 h0 h6 (by decide) hw dL_law_1149 rfl ?_
                                                                refine r_aloadO_n (pc' := 1151) (f4 := 0) (i := 0) C 1 rfl rfl dL_law_1150 rfl ?_
                                                                refine r_iload_n (pc' := 1152) (f4 := 3) (i := 3) C 0 rfl rfl dL_law_1151 rfl ?_
                                                                refine r_iconst (pc' := 1153) C dL_law_1152 rfl ?_
                                                                refine r_iadd (pc' := 1154) C dL_law_1153 rfl ?_
                                                                refine r_sld (pc' := 1155) C hX hbl hbA hL 2 h0 h6 (by decide) hw dL_law_1154 rfl ?_
                                                                refine r_aloadO_n (pc' := 1156) (f4 := 0) (i := 0) C 1 rfl rfl dL_law_1155 rfl ?_
                                                                refine r_iload_n (pc' := 1157) (f4 := 3) (i := 3) C 0 rfl rfl dL_law_1156 rfl ?_
                                                                refine r_iconst (pc' := 1158) C dL_law_1157 rfl ?_
                                                                refine r_iadd (pc' := 1159) C dL_law_1158 rfl ?_
                                                                refine r_sld (pc' := 1160) C hX hbl hbA hL 3 h0 h6 (by decide) hw dL_law_1159 rfl ?_
                                                                refine r_i2l (pc' := 1161) C dL_law_1160 rfl ?_
                                                                refine r_bipush (pc' := 1163) C rfl dL_law_1161 rfl ?_
                                                                refine r_lshl (pc' := 1164) C dL_law_1163 rfl ?_
                                                                refine r_aloadO_n (pc' := 1165) (f4 := 0) (i := 0) C 1 rfl rfl dL_law_1164 rfl ?_
                                                                refine r_iload_n (pc' := 1166) (f4 := 3) (i := 3) C 0 rfl rfl dL_law_1165 rfl ?_
                                                                refine r_iconst (pc' := 1167) C dL_law_1166 rfl ?_
                                                                refine r_iadd (pc' := 1168) C dL_law_1167 rfl ?_
                                                                refine r_sld (pc' := 1169) C hX hbl hbA hL 4 h0 h6 (by decide) hw dL_law_1168 rfl ?_
                                                                refine r_i2l (pc' := 1170) C dL_law_1169 rfl ?_
                                                                refine r_ldc2 (pc' := 1173) C (n := 4294967295) wc_1794 dL_law_1170 rfl ?_
                                                                refine r_land (pc' := 1174) C dL_law_1173 rfl ?_
                                                                refine r_lor (pc' := 1175) C dL_law_1174 rfl ?_
                                                                obtain ⟨q71, hq71, hf⟩ := bind_in hf
                                                                refine q_callV (pc' := 1178) C (t_x_item hF hq71) rfl (K_0 hF) cl_11 wv_RL_142 ⟨Nat.le_of_ble_eq_true rfl, Nat.le_of_ble_eq_true rfl⟩ rfl rfl (Nat.le_of_ble_eq_true rfl) dL_law_1175 rfl ⟨by show (_ : Nat) ≤ 600000; omega, by show (_ : Nat) ≤ 7302250; omega⟩ ?_
                                                                refine r_aload_n (pc' := 1179) (f4 := 2) (i := 2) C 3 rfl rfl dL_law_1178 rfl ?_
                                                                refine r_aloadO_n (pc' := 1180) (f4 := 0) (i := 0) C 1 rfl rfl dL_law_1179 rfl ?_
                                                                refine r_iload_n (pc' := 1181) (f4 := 3) (i := 3) C 0 rfl rfl dL_law_1180 rfl ?_
                                                                refine r_iconst (pc' := 1182) C dL_law_1181 rfl ?_
                                                                refine r_iadd (pc' := 1183) C dL_law_1182 rfl ?_
                                                                refine r_sld (pc' := 1184) C hX hbl hbA hL 1 h0 h6 (by decide) hw dL_law_1183 rfl ?_
                                                                refine r_aloadO_n (pc' := 1185) (f4 := 0) (i := 0) C 1 rfl rfl dL_law_1184 rfl ?_
                                                                refine r_iload_n (pc' := 1186) (f4 := 3) (i := 3) C 0 rfl rfl dL_law_1185 rfl ?_
                                                                refine r_iconst (pc' := 1187) C dL_law_1186 rfl ?_
                                                                refine r_iadd (pc' := 1188) C dL_law_1187 rfl ?_
                                                                refine r_sld (pc' := 1189) C hX hbl hbA hL 2 h0 h6 (by decide) hw dL_law_1188 rfl ?_
                                                                refine r_aloadO_n (pc' := 1190) (f4 := 0) (i := 0) C 1 rfl rfl dL_law_1189 rfl ?_
                                                                refine r_iload_n (pc' := 1191) (f4 := 3) (i := 3) C 0 rfl rfl dL_law_1190 rfl ?_
                                                                refine r_iconst (pc' := 1192) C dL_law_1191 rfl ?_
                                                                refine r_iadd (pc' := 1193) C dL_law_1192 rfl ?_
                                                                refine r_sld (pc' := 1194) C hX hbl hbA hL 3 h0 h6 (by decide) hw dL_law_1193 rfl ?_
                                                                refine r_i2l (pc' := 1195) C dL_law_1194 rfl ?_
                                                                refine r_bipush (pc' := 1197) C rfl dL_law_1195 rfl ?_
                                                                refine r_lshl (pc' := 1198) C dL_law_1197 rfl ?_
                                                                refine r_aloadO_n (pc' := 1199) (f4 := 0) (i := 0) C 1 rfl rfl dL_law_1198 rfl ?_
                                                                refine r_iload_n (pc' := 1200) (f4 := 3) (i := 3) C 0 rfl rfl dL_law_1199 rfl ?_
                                                                refine r_iconst (pc' := 1201) C dL_law_1200 rfl ?_
                                                                refine r_iadd (pc' := 1202) C dL_law_1201 rfl ?_
                                                                refine r_sld (pc' := 1203) C hX hbl hbA hL 4 h0 h6 (by decide) hw dL_law_1202 rfl ?_
                                                                refine r_i2l (pc' := 1204) C dL_law_1203 rfl ?_
                                                                refine r_ldc2 (pc' := 1207) C (n := 4294967295) wc_1794 dL_law_1204 rfl ?_
                                                                refine r_land (pc' := 1208) C dL_law_1207 rfl ?_
                                                                refine r_lor (pc' := 1209) C dL_law_1208 rfl ?_
                                                                obtain ⟨q72, hq72, hf⟩ := bind_in hf
                                                                refine q_callV (pc' := 1212) C (t_m_item hF hq72) rfl (K_193 hF) cl_12 wv_RL_146 ⟨Nat.le_of_ble_eq_true rfl, Nat.le_of_ble_eq_true rfl⟩ rfl rfl (Nat.le_of_ble_eq_true rfl) dL_law_1209 rfl ⟨by show (_ : Nat) ≤ 600000; omega, by show (_ : Nat) ≤ 7302250; omega⟩ ?_
                                                                refine r_icmp_eq (pc' := 1215) (tgt := 1314) C rfl rfl hf dL_law_1212 (by decide) rfl (fun hf => ?_) (fun hf => ?_)
                                                                · cases hf
                                                                  refine r_iinc (pc' := 1317) (i := 3) (L' := [(3, zI (i + 6)), (0, .ref b), (1, zP bs 0), (2, zP bs 193)]) C 0 rfl (by decide) rfl dL_law_1314 rfl ?_
                                                                  refine r_goto (tgt := 18) C dL_law_1317 (by decide) ?_
                                                                  exact V.wide (k := cells + 20) (n := slots + 300) (by omega) (by omega) kk
                                                                · refine r_iconst (pc' := 1216) C dL_law_1215 rfl ?_
                                                                  cases hf
                                                              · rw [if_neg cs30] at hf
                                                                by_cases cs31 : ww (zand (w 0) 63) = 31
                                                                · rw [if_pos cs31] at hf
                                                                  refine r_tsIn (tgt := 1217) C 31 cs31 dL_law_33 (by decide) (by decide) rfl (by decide) ?_
                                                                  refine r_aload_n (pc' := 1218) (f4 := 1) (i := 1) C 2 rfl rfl dL_law_1217 rfl ?_
                                                                  refine r_aloadO_n (pc' := 1219) (f4 := 0) (i := 0) C 1 rfl rfl dL_law_1218 rfl ?_
                                                                  refine r_iload_n (pc' := 1220) (f4 := 3) (i := 3) C 0 rfl rfl dL_law_1219 rfl ?_
                                                                  refine r_iconst (pc' := 1221) C dL_law_1220 rfl ?_
                                                                  refine r_iadd (pc' := 1222) C dL_law_1221 rfl ?_
                                                                  refine r_sld (pc' := 1223) C hX hbl hbA hL 1 h0 h6 (by decide) hw dL_law_1222 rfl ?_
                                                                  refine r_aloadO_n (pc' := 1224) (f4 := 0) (i := 0) C 1 rfl rfl dL_law_1223 rfl ?_
                                                                  refine r_iload_n (pc' := 1225) (f4 := 3) (i := 3) C 0 rfl rfl dL_law_1224 rfl ?_
                                                                  refine r_iconst (pc' := 1226) C dL_law_1225 rfl ?_
                                                                  refine r_iadd (pc' := 1227) C dL_law_1226 rfl ?_
                                                                  refine r_sld (pc' := 1228) C hX hbl hbA hL 2 h0 h6 (by decide) hw dL_law_1227 rfl ?_
                                                                  obtain ⟨q73, hq73, hf⟩ := bind_in hf
                                                                  refine q_callV (pc' := 1231) C (t_x_read hF hq73) rfl (K_0 hF) cl_11 wv_RL_147 ⟨Nat.le_of_ble_eq_true rfl, Nat.le_of_ble_eq_true rfl⟩ rfl rfl (Nat.le_of_ble_eq_true rfl) dL_law_1228 rfl ⟨by show (_ : Nat) ≤ 600000; omega, by show (_ : Nat) ≤ 7302250; omega⟩ ?_
                                                                  refine r_aload_n (pc' := 1232) (f4 := 2) (i := 2) C 3 rfl rfl dL_law_1231 rfl ?_
                                                                  refine r_aloadO_n (pc' := 1233) (f4 := 0) (i := 0) C 1 rfl rfl dL_law_1232 rfl ?_
                                                                  refine r_iload_n (pc' := 1234) (f4 := 3) (i := 3) C 0 rfl rfl dL_law_1233 rfl ?_
                                                                  refine r_iconst (pc' := 1235) C dL_law_1234 rfl ?_
                                                                  refine r_iadd (pc' := 1236) C dL_law_1235 rfl ?_
                                                                  refine r_sld (pc' := 1237) C hX hbl hbA hL 1 h0 h6 (by decide) hw dL_law_1236 rfl ?_
                                                                  refine r_aloadO_n (pc' := 1238) (f4 := 0) (i := 0) C 1 rfl rfl dL_law_1237 rfl ?_
                                                                  refine r_iload_n (pc' := 1239) (f4 := 3) (i := 3) C 0 rfl rfl dL_law_1238 rfl ?_
                                                                  refine r_iconst (pc' := 1240) C dL_law_1239 rfl ?_
                                                                  refine r_iadd (pc' := 1241) C dL_law_1240 rfl ?_
                                                                  refine r_sld (pc' := 1242) C hX hbl hbA hL 2 h0 h6 (by decide) hw dL_law_1241 rfl ?_
                                                                  obtain ⟨q74, hq74, hf⟩ := bind_in hf
                                                                  refine q_callV (pc' := 1245) C (t_m_read hF hq74) rfl (K_193 hF) cl_12 wv_RL_150 ⟨Nat.le_of_ble_eq_true rfl, Nat.le_of_ble_eq_true rfl⟩ rfl rfl (Nat.le_of_ble_eq_true rfl) dL_law_1242 rfl ⟨by show (_ : Nat) ≤ 600000; omega, by show (_ : Nat) ≤ 7302250; omega⟩ ?_
                                                                  refine r_lcmp (pc' := 1246) C dL_law_1245 rfl ?_
                                                                  refine r_if_eq (pc' := 1249) (tgt := 1314) C rfl hf dL_law_1246 (by decide) rfl (fun hf => ?_) (fun hf => ?_)
                                                                  · cases hf
                                                                    refine r_iinc (pc' := 1317) (i := 3) (L' := [(3, zI (i + 6)), (0, .ref b), (1, zP bs 0), (2, zP bs 193)]) C 0 rfl (by decide) rfl dL_law_1314 rfl ?_
                                                                    refine r_goto (tgt := 18) C dL_law_1317 (by decide) ?_
                                                                    exact V.wide (k := cells + 20) (n := slots + 300) (by omega) (by omega) kk
                                                                  · refine r_iconst (pc' := 1250) C dL_law_1249 rfl ?_
                                                                    cases hf
                                                                · rw [if_neg cs31] at hf
                                                                  by_cases cs32 : ww (zand (w 0) 63) = 32
                                                                  · rw [if_pos cs32] at hf
                                                                    refine r_tsIn (tgt := 1251) C 32 cs32 dL_law_33 (by decide) (by decide) rfl (by decide) ?_
                                                                    refine r_aload_n (pc' := 1252) (f4 := 1) (i := 1) C 2 rfl rfl dL_law_1251 rfl ?_
                                                                    refine r_aloadO_n (pc' := 1253) (f4 := 0) (i := 0) C 1 rfl rfl dL_law_1252 rfl ?_
                                                                    refine r_iload_n (pc' := 1254) (f4 := 3) (i := 3) C 0 rfl rfl dL_law_1253 rfl ?_
                                                                    refine r_iconst (pc' := 1255) C dL_law_1254 rfl ?_
                                                                    refine r_iadd (pc' := 1256) C dL_law_1255 rfl ?_
                                                                    refine r_sld (pc' := 1257) C hX hbl hbA hL 1 h0 h6 (by decide) hw dL_law_1256 rfl ?_
                                                                    refine r_aloadO_n (pc' := 1258) (f4 := 0) (i := 0) C 1 rfl rfl dL_law_1257 rfl ?_
                                                                    refine r_iload_n (pc' := 1259) (f4 := 3) (i := 3) C 0 rfl rfl dL_law_1258 rfl ?_
                                                                    refine r_iconst (pc' := 1260) C dL_law_1259 rfl ?_
                                                                    refine r_iadd (pc' := 1261) C dL_law_1260 rfl ?_
                                                                    refine r_sld (pc' := 1262) C hX hbl hbA hL 2 h0 h6 (by decide) hw dL_law_1261 rfl ?_
                                                                    refine r_aloadO_n (pc' := 1263) (f4 := 0) (i := 0) C 1 rfl rfl dL_law_1262 rfl ?_
                                                                    refine r_iload_n (pc' := 1264) (f4 := 3) (i := 3) C 0 rfl rfl dL_law_1263 rfl ?_
                                                                    refine r_iconst (pc' := 1265) C dL_law_1264 rfl ?_
                                                                    refine r_iadd (pc' := 1266) C dL_law_1265 rfl ?_
                                                                    refine r_sld (pc' := 1267) C hX hbl hbA hL 3 h0 h6 (by decide) hw dL_law_1266 rfl ?_
                                                                    refine r_aloadO_n (pc' := 1268) (f4 := 0) (i := 0) C 1 rfl rfl dL_law_1267 rfl ?_
                                                                    refine r_iload_n (pc' := 1269) (f4 := 3) (i := 3) C 0 rfl rfl dL_law_1268 rfl ?_
                                                                    refine r_iconst (pc' := 1270) C dL_law_1269 rfl ?_
                                                                    refine r_iadd (pc' := 1271) C dL_law_1270 rfl ?_
                                                                    refine r_sld (pc' := 1272) C hX hbl hbA hL 4 h0 h6 (by decide) hw dL_law_1271 rfl ?_
                                                                    refine r_aloadO_n (pc' := 1273) (f4 := 0) (i := 0) C 1 rfl rfl dL_law_1272 rfl ?_
                                                                    refine r_iload_n (pc' := 1274) (f4 := 3) (i := 3) C 0 rfl rfl dL_law_1273 rfl ?_
                                                                    refine r_iconst (pc' := 1275) C dL_law_1274 rfl ?_
                                                                    refine r_iadd (pc' := 1276) C dL_law_1275 rfl ?_
                                                                    refine r_sld (pc' := 1277) C hX hbl hbA hL 5 h0 h6 (by decide) hw dL_law_1276 rfl ?_
                                                                    obtain ⟨q75, hq75, hf⟩ := bind_in hf
                                                                    refine q_callV (pc' := 1280) C (t_x_shift hF hq75) rfl (K_0 hF) cl_11 wv_RL_151 ⟨Nat.le_of_ble_eq_true rfl, Nat.le_of_ble_eq_true rfl⟩ rfl rfl (Nat.le_of_ble_eq_true rfl) dL_law_1277 rfl ⟨by show (_ : Nat) ≤ 600000; omega, by show (_ : Nat) ≤ 7302250; omega⟩ ?_
                                                                    refine r_aload_n (pc' := 1281) (f4 := 2) (i := 2) C 3 rfl rfl dL_law_1280 rfl ?_
                                                                    refine r_aloadO_n (pc' := 1282) (f4 := 0) (i := 0) C 1 rfl rfl dL_law_1281 rfl ?_
                                                                    refine r_iload_n (pc' := 1283) (f4 := 3) (i := 3) C 0 rfl rfl dL_law_1282 rfl ?_
                                                                    refine r_iconst (pc' := 1284) C dL_law_1283 rfl ?_
                                                                    refine r_iadd (pc' := 1285) C dL_law_1284 rfl ?_
                                                                    refine r_sld (pc' := 1286) C hX hbl hbA hL 1 h0 h6 (by decide) hw dL_law_1285 rfl ?_
                                                                    refine r_aloadO_n (pc' := 1287) (f4 := 0) (i := 0) C 1 rfl rfl dL_law_1286 rfl ?_
                                                                    refine r_iload_n (pc' := 1288) (f4 := 3) (i := 3) C 0 rfl rfl dL_law_1287 rfl ?_
                                                                    refine r_iconst (pc' := 1289) C dL_law_1288 rfl ?_
                                                                    refine r_iadd (pc' := 1290) C dL_law_1289 rfl ?_
                                                                    refine r_sld (pc' := 1291) C hX hbl hbA hL 2 h0 h6 (by decide) hw dL_law_1290 rfl ?_
                                                                    refine r_aloadO_n (pc' := 1292) (f4 := 0) (i := 0) C 1 rfl rfl dL_law_1291 rfl ?_
                                                                    refine r_iload_n (pc' := 1293) (f4 := 3) (i := 3) C 0 rfl rfl dL_law_1292 rfl ?_
                                                                    refine r_iconst (pc' := 1294) C dL_law_1293 rfl ?_
                                                                    refine r_iadd (pc' := 1295) C dL_law_1294 rfl ?_
                                                                    refine r_sld (pc' := 1296) C hX hbl hbA hL 3 h0 h6 (by decide) hw dL_law_1295 rfl ?_
                                                                    refine r_aloadO_n (pc' := 1297) (f4 := 0) (i := 0) C 1 rfl rfl dL_law_1296 rfl ?_
                                                                    refine r_iload_n (pc' := 1298) (f4 := 3) (i := 3) C 0 rfl rfl dL_law_1297 rfl ?_
                                                                    refine r_iconst (pc' := 1299) C dL_law_1298 rfl ?_
                                                                    refine r_iadd (pc' := 1300) C dL_law_1299 rfl ?_
                                                                    refine r_sld (pc' := 1301) C hX hbl hbA hL 4 h0 h6 (by decide) hw dL_law_1300 rfl ?_
                                                                    refine r_aloadO_n (pc' := 1302) (f4 := 0) (i := 0) C 1 rfl rfl dL_law_1301 rfl ?_
                                                                    refine r_iload_n (pc' := 1303) (f4 := 3) (i := 3) C 0 rfl rfl dL_law_1302 rfl ?_
                                                                    refine r_iconst (pc' := 1304) C dL_law_1303 rfl ?_
                                                                    refine r_iadd (pc' := 1305) C dL_law_1304 rfl ?_
                                                                    refine r_sld (pc' := 1306) C hX hbl hbA hL 5 h0 h6 (by decide) hw dL_law_1305 rfl ?_
                                                                    obtain ⟨q76, hq76, hf⟩ := bind_in hf
                                                                    refine q_callV (pc' := 1309) C (t_m_shift hF hq76) rfl (K_193 hF) cl_12 wv_RL_155 ⟨Nat.le_of_ble_eq_true rfl, Nat.le_of_ble_eq_true rfl⟩ rfl rfl (Nat.le_of_ble_eq_true rfl) dL_law_1306 rfl ⟨by show (_ : Nat) ≤ 600000; omega, by show (_ : Nat) ≤ 7302250; omega⟩ ?_
                                                                    refine r_icmp_eq (pc' := 1312) (tgt := 1314) C rfl rfl hf dL_law_1309 (by decide) rfl (fun hf => ?_) (fun hf => ?_)
                                                                    · cases hf
                                                                      refine r_iinc (pc' := 1317) (i := 3) (L' := [(3, zI (i + 6)), (0, .ref b), (1, zP bs 0), (2, zP bs 193)]) C 0 rfl (by decide) rfl dL_law_1314 rfl ?_
                                                                      refine r_goto (tgt := 18) C dL_law_1317 (by decide) ?_
                                                                      exact V.wide (k := cells + 20) (n := slots + 300) (by omega) (by omega) kk
                                                                    · refine r_iconst (pc' := 1313) C dL_law_1312 rfl ?_
                                                                      cases hf
                                                                  · rw [if_neg cs32] at hf
                                                                    refine r_tsOut (tgt := 1314) C dL_law_33 (by omega) (by decide) ?_
                                                                    cases hf
                                                                    refine r_iinc (pc' := 1317) (i := 3) (L' := [(3, zI (i + 6)), (0, .ref b), (1, zP bs 0), (2, zP bs 193)]) C 0 rfl (by decide) rfl dL_law_1314 rfl ?_
                                                                    refine r_goto (tgt := 18) C dL_law_1317 (by decide) ?_
                                                                    exact V.wide (k := cells + 20) (n := slots + 300) (by omega) (by omega) kk
