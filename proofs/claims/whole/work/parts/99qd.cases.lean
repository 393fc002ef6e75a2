/-! THE LAW: its cases 21 to 27 -/
theorem dL_law__1581 : decode code 1581 = .ok (.aload_n 1, 1) := by decide +kernel
theorem dL_law__1582 : decode code 1582 = .ok (.aload_n 0, 1) := by decide +kernel
theorem dL_law__1583 : decode code 1583 = .ok (.iload 4, 2) := by decide +kernel
theorem dL_law__1585 : decode code 1585 = .ok (.iconst 1, 1) := by decide +kernel
theorem dL_law__1586 : decode code 1586 = .ok (.iadd, 1) := by decide +kernel
theorem dL_law__1587 : decode code 1587 = .ok (.iaload, 1) := by decide +kernel
theorem dL_law__1588 : decode code 1588 = .ok (.aload_n 0, 1) := by decide +kernel
theorem dL_law__1589 : decode code 1589 = .ok (.iload 4, 2) := by decide +kernel
theorem dL_law__1591 : decode code 1591 = .ok (.iconst 2, 1) := by decide +kernel
theorem dL_law__1592 : decode code 1592 = .ok (.iadd, 1) := by decide +kernel
theorem dL_law__1593 : decode code 1593 = .ok (.iaload, 1) := by decide +kernel
theorem dL_law__1594 : decode code 1594 = .ok (.aload_n 3, 1) := by decide +kernel
set_option maxRecDepth 100000 in
theorem lwd_1234 : Cond.methodLink "SunnyPansLaw" 200 yL_look ∈ tbG := tw5 174 rfl rfl
set_option maxRecDepth 100000 in
theorem lwd_1235 : Cond.static yL_look ∈ tbG := tw5 175 rfl rfl
set_option maxRecDepth 100000 in
theorem lwd_1236 : Cond.codeWith yL_look cL_look 5 (some .int) [(0, 10, 13, 13)] ∈ tbG := tw5 176 rfl rfl
theorem dL_law__1595 : decode code 1595 = .ok (.invokestatic 200, 3) := by decide +kernel
theorem dL_law__1598 : decode code 1598 = .ok (.istore 5, 2) := by decide +kernel
theorem dL_law__1600 : decode code 1600 = .ok (.aload_n 2, 1) := by decide +kernel
theorem dL_law__1601 : decode code 1601 = .ok (.aload_n 0, 1) := by decide +kernel
theorem dL_law__1602 : decode code 1602 = .ok (.iload 4, 2) := by decide +kernel
theorem dL_law__1604 : decode code 1604 = .ok (.iconst 1, 1) := by decide +kernel
theorem dL_law__1605 : decode code 1605 = .ok (.iadd, 1) := by decide +kernel
theorem dL_law__1606 : decode code 1606 = .ok (.iaload, 1) := by decide +kernel
theorem dL_law__1607 : decode code 1607 = .ok (.aload_n 0, 1) := by decide +kernel
theorem dL_law__1608 : decode code 1608 = .ok (.iload 4, 2) := by decide +kernel
theorem dL_law__1610 : decode code 1610 = .ok (.iconst 2, 1) := by decide +kernel
theorem dL_law__1611 : decode code 1611 = .ok (.iadd, 1) := by decide +kernel
theorem dL_law__1612 : decode code 1612 = .ok (.iaload, 1) := by decide +kernel
set_option maxRecDepth 100000 in
theorem lwd_1856 : Cond.methodLink "SunnyPansLaw" 202 yX10_look ∈ tbG := tw8 76 rfl rfl
set_option maxRecDepth 100000 in
theorem lwd_1857 : Cond.instanceMethod yX10_look ∈ tbG := tw8 77 rfl rfl
set_option maxRecDepth 100000 in
theorem lwd_1858 : Cond.selects "SunnyPansModel" yX10_look yX10_look ∈ tbG := tw8 78 rfl rfl
set_option maxRecDepth 100000 in
theorem lwd_1859 : Cond.code yX10_look cX10_look 8 (some .int) ∈ tbG := tw8 79 rfl rfl
theorem lcvX10_look : zCV "SunnyPansLaw" 202 "SunnyPansModel" yX10_look cX10_look 8 (some .int) 2 := zCV_of lwd_1856 lwd_1857 lwd_1858 lwd_111 lwd_1859 (by decide +kernel)
theorem dL_law__1613 : decode code 1613 = .ok (.invokevirtual 202, 3) := by decide +kernel
theorem dL_law__1616 : decode code 1616 = .ok (.istore 6, 2) := by decide +kernel
theorem dL_law__1618 : decode code 1618 = .ok (.aload_n 2, 1) := by decide +kernel
theorem dL_law__1619 : decode code 1619 = .ok (.invokevirtual 133, 3) := by decide +kernel
theorem dL_law__1622 : decode code 1622 = .ok (.iload 5, 2) := by decide +kernel
theorem dL_law__1624 : decode code 1624 = .ok (.if_icmp .eq 5, 3) := by decide +kernel
theorem dL_law__1629 : decode code 1629 = .ok (.iload 5, 2) := by decide +kernel
theorem dL_law__1631 : decode code 1631 = .ok (.ifCond .ne 15, 3) := by decide +kernel
theorem dL_law__1646 : decode code 1646 = .ok (.goto 1119, 3) := by decide +kernel
theorem dL_law__1634 : decode code 1634 = .ok (.aload_n 3, 1) := by decide +kernel
theorem dL_law__1635 : decode code 1635 = .ok (.iconst 0, 1) := by decide +kernel
theorem dL_law__1636 : decode code 1636 = .ok (.laload, 1) := by decide +kernel
theorem dL_law__1637 : decode code 1637 = .ok (.iload 6, 2) := by decide +kernel
theorem dL_law__1639 : decode code 1639 = .ok (.i2l, 1) := by decide +kernel
theorem dL_law__1640 : decode code 1640 = .ok (.lcmp, 1) := by decide +kernel
theorem dL_law__1641 : decode code 1641 = .ok (.ifCond .eq 5, 3) := by decide +kernel
set_option maxHeartbeats 4000000 in
theorem lc_look {p : Program} {l : Launch} {e : Env} {s : State} {m : MethodId} {below : List Frame} {meth : Method} {c : Code} {G : zG} {b L i cells slots : Nat} {xs : Nat → Int32} {Q : State → Prop} (C : LW9 p l s m meth c G b L xs) (hi : i + 9 ≤ L) (hcell : cells + 4 ≤ room_1.cells ∧ slots + 24 ≤ room_1.slots) (kk : LK9 p l e s m below meth c G b i Q cells slots) : LC9 p l e s m below meth c G b i Q cells slots 1581 := by
  intro Mx Mm v S hXo hMn ok
  obtain ⟨cx, hX, hbl, hL, hl, hN⟩ := C
  have hbA : ¬ (fun q => s.heap.size ≤ q) b := Nat.not_le.mpr hbl
  have hA : ∀ q, s.heap.size ≤ q → (fun q => s.heap.size ≤ q) q := fun _ h => h
  obtain ⟨k, vx, Mx', w, Mm', t, S', hF, hG, hth, hT, hv, hX', hM', ok'⟩ := q_look (xs (i + 1)) (xs (i + 2)) hXo hMn ok
  obtain ⟨v', hk, hv0⟩ := hkT1 (v := v) hT hv
  have hthr : F_X10_thrown Mm' = some (nI t, Mm') := by unfold F_X10_thrown; rw [hth]
  refine l_aload_n cx dL_law__1581 1 rfl ?_
  refine l_arg cx hX hbl hbA (j := 1) (by omega) hL 0 4 rfl rfl li_1 dL_law__1582 dL_law__1583 dL_law__1585 dL_law__1586 dL_law__1587 ?_
  refine l_arg cx hX hbl hbA (j := 2) (by omega) hL 0 4 rfl rfl li_2 dL_law__1588 dL_law__1589 dL_law__1591 dL_law__1592 dL_law__1593 ?_
  refine l_aload_n cx dL_law__1594 3 rfl ?_
  refine l_callWL (na := 4) (As := [.ref (adX s.heap.size 0), .int (xs (i + 1)), .int (xs (i + 2)), .ref (aoL s.heap.size)]) (rest := []) cx hA (cw_look l (adX_in _) Mx v (xs (i + 1)) (xs (i + 2)) hl hF hk) lwd_1234 lwd_1235 lwd_100 lwd_1236 (by decide +kernel) ⟨rfl, rfl, Nat.le_of_ble_eq_true rfl, Nat.le_of_ble_eq_true rfl⟩ rfl rfl ⟨by decide, by decide⟩ hcell (Nat.le_of_ble_eq_true rfl) dL_law__1595 hN ?_
  refine l_istore cx 5 ((5, .int (nI t)) :: lvL b s.heap.size i) dL_law__1598 (by decide) rfl ?_
  refine l_aload_n cx dL_law__1600 3 rfl ?_
  refine l_arg cx hX hbl hbA (j := 1) (by omega) hL 1 5 rfl rfl li_1 dL_law__1601 dL_law__1602 dL_law__1604 dL_law__1605 dL_law__1606 ?_
  refine l_arg cx hX hbl hbA (j := 2) (by omega) hL 1 5 rfl rfl li_2 dL_law__1607 dL_law__1608 dL_law__1610 dL_law__1611 dL_law__1612 ?_
  refine l_callML (As := [.int (xs (i + 1)), .int (xs (i + 2))]) (rest := []) cx hA (c_X10_look l (adM_in _) Mm (xs (i + 1)) (xs (i + 2)) lTM hG) lcvX10_look ⟨rfl, rfl, Nat.le_of_ble_eq_true rfl, Nat.le_of_ble_eq_true rfl⟩ rfl rfl hcell (Nat.le_of_ble_eq_true rfl) dL_law__1613 ?_
  refine l_istore cx 6 ((6, .int w) :: (5, .int (nI t)) :: lvL b s.heap.size i) dL_law__1616 (by decide) rfl ?_
  refine l_aload_n cx dL_law__1618 4 rfl ?_
  refine l_callML (As := []) (rest := []) cx hA (c_X10_thrown l (adM_in _) Mm' lTM hthr) lcvX10_thrown ⟨rfl, rfl, Nat.le_of_ble_eq_true rfl, Nat.le_of_ble_eq_true rfl⟩ rfl rfl hcell (Nat.le_of_ble_eq_true rfl) dL_law__1619 ?_
  refine l_iload cx dL_law__1622 1 rfl ?_
  refine l_icmp_eq cx 1629 dL_law__1624 (by decide) (fun _ => ?_) (fun h => absurd rfl h)
  refine l_iload cx dL_law__1629 1 rfl ?_
  refine l_if_ne cx 1646 dL_law__1631 (by decide) (fun _ => ?_) (fun h0 => ?_)
  · refine l_goto cx 2765 dL_law__1646 (by decide) ?_
    refine l_sub [2, 3, 4, 5, 6] rfl ?_
    exact kk _ _ _ _ hX' hM' ok'
  · refine l_aload_n cx dL_law__1634 5 rfl ?_
    refine l_iconst cx dL_law__1635 ki_0 ?_
    refine l_laldL cx dL_law__1636 ?_
    refine l_iload cx dL_law__1637 0 rfl ?_
    refine l_i2l cx dL_law__1639 ?_
    refine l_lcmp cx dL_law__1640 ?_
    rw [hv0 h0, lgc_self]
    refine l_if_eq cx 1646 dL_law__1641 (by decide) (fun _ => ?_) (fun h => absurd rfl h)
    refine l_goto cx 2765 dL_law__1646 (by decide) ?_
    refine l_sub [2, 3, 4, 5, 6] rfl ?_
    refine l_conv (P' := LPw G s.heap.size Mx' Mm' v') (fun _ h => by rw [hv0 h0]; exact h) ?_
    exact kk _ _ _ _ hX' hM' ok'
theorem dL_law__1649 : decode code 1649 = .ok (.aload_n 1, 1) := by decide +kernel
theorem dL_law__1650 : decode code 1650 = .ok (.aload_n 0, 1) := by decide +kernel
theorem dL_law__1651 : decode code 1651 = .ok (.iload 4, 2) := by decide +kernel
theorem dL_law__1653 : decode code 1653 = .ok (.iconst 1, 1) := by decide +kernel
theorem dL_law__1654 : decode code 1654 = .ok (.iadd, 1) := by decide +kernel
theorem dL_law__1655 : decode code 1655 = .ok (.iaload, 1) := by decide +kernel
theorem dL_law__1656 : decode code 1656 = .ok (.aload_n 0, 1) := by decide +kernel
theorem dL_law__1657 : decode code 1657 = .ok (.iload 4, 2) := by decide +kernel
theorem dL_law__1659 : decode code 1659 = .ok (.iconst 2, 1) := by decide +kernel
theorem dL_law__1660 : decode code 1660 = .ok (.iadd, 1) := by decide +kernel
theorem dL_law__1661 : decode code 1661 = .ok (.iaload, 1) := by decide +kernel
theorem dL_law__1662 : decode code 1662 = .ok (.aload_n 0, 1) := by decide +kernel
theorem dL_law__1663 : decode code 1663 = .ok (.iload 4, 2) := by decide +kernel
theorem dL_law__1665 : decode code 1665 = .ok (.iconst 3, 1) := by decide +kernel
theorem dL_law__1666 : decode code 1666 = .ok (.iadd, 1) := by decide +kernel
theorem dL_law__1667 : decode code 1667 = .ok (.iaload, 1) := by decide +kernel
theorem dL_law__1668 : decode code 1668 = .ok (.aload_n 0, 1) := by decide +kernel
theorem dL_law__1669 : decode code 1669 = .ok (.iload 4, 2) := by decide +kernel
theorem dL_law__1671 : decode code 1671 = .ok (.iconst 4, 1) := by decide +kernel
theorem dL_law__1672 : decode code 1672 = .ok (.iadd, 1) := by decide +kernel
theorem dL_law__1673 : decode code 1673 = .ok (.iaload, 1) := by decide +kernel
theorem dL_law__1674 : decode code 1674 = .ok (.aload_n 3, 1) := by decide +kernel
set_option maxRecDepth 100000 in
theorem lwd_1254 : Cond.methodLink "SunnyPansLaw" 203 yL_water ∈ tbG := tw5 194 rfl rfl
set_option maxRecDepth 100000 in
theorem lwd_1255 : Cond.static yL_water ∈ tbG := tw5 195 rfl rfl
set_option maxRecDepth 100000 in
theorem lwd_1256 : Cond.codeWith yL_water cL_water 7 (some .int) [(0, 14, 17, 31), (0, 14, 21, 13)] ∈ tbG := tw5 196 rfl rfl
theorem dL_law__1675 : decode code 1675 = .ok (.invokestatic 203, 3) := by decide +kernel
theorem dL_law__1678 : decode code 1678 = .ok (.istore 5, 2) := by decide +kernel
theorem dL_law__1680 : decode code 1680 = .ok (.aload_n 2, 1) := by decide +kernel
theorem dL_law__1681 : decode code 1681 = .ok (.aload_n 0, 1) := by decide +kernel
theorem dL_law__1682 : decode code 1682 = .ok (.iload 4, 2) := by decide +kernel
theorem dL_law__1684 : decode code 1684 = .ok (.iconst 1, 1) := by decide +kernel
theorem dL_law__1685 : decode code 1685 = .ok (.iadd, 1) := by decide +kernel
theorem dL_law__1686 : decode code 1686 = .ok (.iaload, 1) := by decide +kernel
theorem dL_law__1687 : decode code 1687 = .ok (.aload_n 0, 1) := by decide +kernel
theorem dL_law__1688 : decode code 1688 = .ok (.iload 4, 2) := by decide +kernel
theorem dL_law__1690 : decode code 1690 = .ok (.iconst 2, 1) := by decide +kernel
theorem dL_law__1691 : decode code 1691 = .ok (.iadd, 1) := by decide +kernel
theorem dL_law__1692 : decode code 1692 = .ok (.iaload, 1) := by decide +kernel
theorem dL_law__1693 : decode code 1693 = .ok (.aload_n 0, 1) := by decide +kernel
theorem dL_law__1694 : decode code 1694 = .ok (.iload 4, 2) := by decide +kernel
theorem dL_law__1696 : decode code 1696 = .ok (.iconst 3, 1) := by decide +kernel
theorem dL_law__1697 : decode code 1697 = .ok (.iadd, 1) := by decide +kernel
theorem dL_law__1698 : decode code 1698 = .ok (.iaload, 1) := by decide +kernel
theorem dL_law__1699 : decode code 1699 = .ok (.aload_n 0, 1) := by decide +kernel
theorem dL_law__1700 : decode code 1700 = .ok (.iload 4, 2) := by decide +kernel
theorem dL_law__1702 : decode code 1702 = .ok (.iconst 4, 1) := by decide +kernel
theorem dL_law__1703 : decode code 1703 = .ok (.iadd, 1) := by decide +kernel
theorem dL_law__1704 : decode code 1704 = .ok (.iaload, 1) := by decide +kernel
set_option maxRecDepth 100000 in
theorem lwd_1868 : Cond.methodLink "SunnyPansLaw" 205 yX10_water ∈ tbG := tw8 88 rfl rfl
set_option maxRecDepth 100000 in
theorem lwd_1869 : Cond.instanceMethod yX10_water ∈ tbG := tw8 89 rfl rfl
set_option maxRecDepth 100000 in
theorem lwd_1870 : Cond.selects "SunnyPansModel" yX10_water yX10_water ∈ tbG := tw8 90 rfl rfl
set_option maxRecDepth 100000 in
theorem lwd_1871 : Cond.code yX10_water cX10_water 6 (some .int) ∈ tbG := tw8 91 rfl rfl
theorem lcvX10_water : zCV "SunnyPansLaw" 205 "SunnyPansModel" yX10_water cX10_water 6 (some .int) 4 := zCV_of lwd_1868 lwd_1869 lwd_1870 lwd_111 lwd_1871 (by decide +kernel)
theorem dL_law__1705 : decode code 1705 = .ok (.invokevirtual 205, 3) := by decide +kernel
theorem dL_law__1708 : decode code 1708 = .ok (.istore 6, 2) := by decide +kernel
theorem dL_law__1710 : decode code 1710 = .ok (.aload_n 2, 1) := by decide +kernel
theorem dL_law__1711 : decode code 1711 = .ok (.invokevirtual 133, 3) := by decide +kernel
theorem dL_law__1714 : decode code 1714 = .ok (.iload 5, 2) := by decide +kernel
theorem dL_law__1716 : decode code 1716 = .ok (.if_icmp .eq 5, 3) := by decide +kernel
theorem dL_law__1721 : decode code 1721 = .ok (.iload 5, 2) := by decide +kernel
theorem dL_law__1723 : decode code 1723 = .ok (.ifCond .ne 15, 3) := by decide +kernel
theorem dL_law__1738 : decode code 1738 = .ok (.goto 1027, 3) := by decide +kernel
theorem dL_law__1726 : decode code 1726 = .ok (.aload_n 3, 1) := by decide +kernel
theorem dL_law__1727 : decode code 1727 = .ok (.iconst 0, 1) := by decide +kernel
theorem dL_law__1728 : decode code 1728 = .ok (.laload, 1) := by decide +kernel
theorem dL_law__1729 : decode code 1729 = .ok (.iload 6, 2) := by decide +kernel
theorem dL_law__1731 : decode code 1731 = .ok (.i2l, 1) := by decide +kernel
theorem dL_law__1732 : decode code 1732 = .ok (.lcmp, 1) := by decide +kernel
theorem dL_law__1733 : decode code 1733 = .ok (.ifCond .eq 5, 3) := by decide +kernel
set_option maxHeartbeats 4000000 in
theorem lc_water {p : Program} {l : Launch} {e : Env} {s : State} {m : MethodId} {below : List Frame} {meth : Method} {c : Code} {G : zG} {b L i cells slots : Nat} {xs : Nat → Int32} {Q : State → Prop} (C : LW9 p l s m meth c G b L xs) (hi : i + 9 ≤ L) (hcell : cells + 4 ≤ room_1.cells ∧ slots + 24 ≤ room_1.slots) (kk : LK9 p l e s m below meth c G b i Q cells slots) : LC9 p l e s m below meth c G b i Q cells slots 1649 := by
  intro Mx Mm v S hXo hMn ok
  obtain ⟨cx, hX, hbl, hL, hl, hN⟩ := C
  have hbA : ¬ (fun q => s.heap.size ≤ q) b := Nat.not_le.mpr hbl
  have hA : ∀ q, s.heap.size ≤ q → (fun q => s.heap.size ≤ q) q := fun _ h => h
  obtain ⟨k, vx, Mx', w, Mm', t, S', hF, hG, hth, hT, hv, hX', hM', ok'⟩ := q_water (xs (i + 1)) (xs (i + 2)) (xs (i + 3)) (xs (i + 4)) hXo hMn ok
  obtain ⟨v', hk, hv0⟩ := hkT3 (v := v) hT hv
  have hthr : F_X10_thrown Mm' = some (nI t, Mm') := by unfold F_X10_thrown; rw [hth]
  refine l_aload_n cx dL_law__1649 1 rfl ?_
  refine l_arg cx hX hbl hbA (j := 1) (by omega) hL 0 4 rfl rfl li_1 dL_law__1650 dL_law__1651 dL_law__1653 dL_law__1654 dL_law__1655 ?_
  refine l_arg cx hX hbl hbA (j := 2) (by omega) hL 0 4 rfl rfl li_2 dL_law__1656 dL_law__1657 dL_law__1659 dL_law__1660 dL_law__1661 ?_
  refine l_arg cx hX hbl hbA (j := 3) (by omega) hL 0 4 rfl rfl li_3 dL_law__1662 dL_law__1663 dL_law__1665 dL_law__1666 dL_law__1667 ?_
  refine l_arg cx hX hbl hbA (j := 4) (by omega) hL 0 4 rfl rfl li_4 dL_law__1668 dL_law__1669 dL_law__1671 dL_law__1672 dL_law__1673 ?_
  refine l_aload_n cx dL_law__1674 3 rfl ?_
  refine l_callWL (na := 6) (As := [.ref (adX s.heap.size 0), .int (xs (i + 1)), .int (xs (i + 2)), .int (xs (i + 3)), .int (xs (i + 4)), .ref (aoL s.heap.size)]) (rest := []) cx hA (cw_water l (adX_in _) Mx v (xs (i + 1)) (xs (i + 2)) (xs (i + 3)) (xs (i + 4)) hl hF hk) lwd_1254 lwd_1255 lwd_100 lwd_1256 (by decide +kernel) ⟨rfl, rfl, Nat.le_of_ble_eq_true rfl, Nat.le_of_ble_eq_true rfl⟩ rfl rfl ⟨by decide, by decide⟩ hcell (Nat.le_of_ble_eq_true rfl) dL_law__1675 hN ?_
  refine l_istore cx 5 ((5, .int (nI t)) :: lvL b s.heap.size i) dL_law__1678 (by decide) rfl ?_
  refine l_aload_n cx dL_law__1680 3 rfl ?_
  refine l_arg cx hX hbl hbA (j := 1) (by omega) hL 1 5 rfl rfl li_1 dL_law__1681 dL_law__1682 dL_law__1684 dL_law__1685 dL_law__1686 ?_
  refine l_arg cx hX hbl hbA (j := 2) (by omega) hL 1 5 rfl rfl li_2 dL_law__1687 dL_law__1688 dL_law__1690 dL_law__1691 dL_law__1692 ?_
  refine l_arg cx hX hbl hbA (j := 3) (by omega) hL 1 5 rfl rfl li_3 dL_law__1693 dL_law__1694 dL_law__1696 dL_law__1697 dL_law__1698 ?_
  refine l_arg cx hX hbl hbA (j := 4) (by omega) hL 1 5 rfl rfl li_4 dL_law__1699 dL_law__1700 dL_law__1702 dL_law__1703 dL_law__1704 ?_
  refine l_callML (As := [.int (xs (i + 1)), .int (xs (i + 2)), .int (xs (i + 3)), .int (xs (i + 4))]) (rest := []) cx hA (c_X10_water l (adM_in _) Mm (xs (i + 1)) (xs (i + 2)) (xs (i + 3)) (xs (i + 4)) lTM hG) lcvX10_water ⟨rfl, rfl, Nat.le_of_ble_eq_true rfl, Nat.le_of_ble_eq_true rfl⟩ rfl rfl hcell (Nat.le_of_ble_eq_true rfl) dL_law__1705 ?_
  refine l_istore cx 6 ((6, .int w) :: (5, .int (nI t)) :: lvL b s.heap.size i) dL_law__1708 (by decide) rfl ?_
  refine l_aload_n cx dL_law__1710 4 rfl ?_
  refine l_callML (As := []) (rest := []) cx hA (c_X10_thrown l (adM_in _) Mm' lTM hthr) lcvX10_thrown ⟨rfl, rfl, Nat.le_of_ble_eq_true rfl, Nat.le_of_ble_eq_true rfl⟩ rfl rfl hcell (Nat.le_of_ble_eq_true rfl) dL_law__1711 ?_
  refine l_iload cx dL_law__1714 1 rfl ?_
  refine l_icmp_eq cx 1721 dL_law__1716 (by decide) (fun _ => ?_) (fun h => absurd rfl h)
  refine l_iload cx dL_law__1721 1 rfl ?_
  refine l_if_ne cx 1738 dL_law__1723 (by decide) (fun _ => ?_) (fun h0 => ?_)
  · refine l_goto cx 2765 dL_law__1738 (by decide) ?_
    refine l_sub [2, 3, 4, 5, 6] rfl ?_
    exact kk _ _ _ _ hX' hM' ok'
  · refine l_aload_n cx dL_law__1726 5 rfl ?_
    refine l_iconst cx dL_law__1727 ki_0 ?_
    refine l_laldL cx dL_law__1728 ?_
    refine l_iload cx dL_law__1729 0 rfl ?_
    refine l_i2l cx dL_law__1731 ?_
    refine l_lcmp cx dL_law__1732 ?_
    rw [hv0 h0, lgc_self]
    refine l_if_eq cx 1738 dL_law__1733 (by decide) (fun _ => ?_) (fun h => absurd rfl h)
    refine l_goto cx 2765 dL_law__1738 (by decide) ?_
    refine l_sub [2, 3, 4, 5, 6] rfl ?_
    refine l_conv (P' := LPw G s.heap.size Mx' Mm' v') (fun _ h => by rw [hv0 h0]; exact h) ?_
    exact kk _ _ _ _ hX' hM' ok'
theorem dL_law__1741 : decode code 1741 = .ok (.aload_n 1, 1) := by decide +kernel
theorem dL_law__1742 : decode code 1742 = .ok (.aload_n 0, 1) := by decide +kernel
theorem dL_law__1743 : decode code 1743 = .ok (.iload 4, 2) := by decide +kernel
theorem dL_law__1745 : decode code 1745 = .ok (.iconst 1, 1) := by decide +kernel
theorem dL_law__1746 : decode code 1746 = .ok (.iadd, 1) := by decide +kernel
theorem dL_law__1747 : decode code 1747 = .ok (.iaload, 1) := by decide +kernel
theorem dL_law__1748 : decode code 1748 = .ok (.aload_n 3, 1) := by decide +kernel
set_option maxRecDepth 100000 in
theorem lwd_1266 : Cond.methodLink "SunnyPansLaw" 206 yL_strongest ∈ tbG := tw5 206 rfl rfl
set_option maxRecDepth 100000 in
theorem lwd_1267 : Cond.static yL_strongest ∈ tbG := tw5 207 rfl rfl
set_option maxRecDepth 100000 in
theorem lwd_1268 : Cond.codeWith yL_strongest cL_strongest 4 (some .int) [(0, 9, 12, 13)] ∈ tbG := tw5 208 rfl rfl
theorem dL_law__1749 : decode code 1749 = .ok (.invokestatic 206, 3) := by decide +kernel
theorem dL_law__1752 : decode code 1752 = .ok (.istore 5, 2) := by decide +kernel
theorem dL_law__1754 : decode code 1754 = .ok (.aload_n 2, 1) := by decide +kernel
theorem dL_law__1755 : decode code 1755 = .ok (.aload_n 0, 1) := by decide +kernel
theorem dL_law__1756 : decode code 1756 = .ok (.iload 4, 2) := by decide +kernel
theorem dL_law__1758 : decode code 1758 = .ok (.iconst 1, 1) := by decide +kernel
theorem dL_law__1759 : decode code 1759 = .ok (.iadd, 1) := by decide +kernel
theorem dL_law__1760 : decode code 1760 = .ok (.iaload, 1) := by decide +kernel
set_option maxRecDepth 100000 in
theorem lwd_1880 : Cond.methodLink "SunnyPansLaw" 208 yX10_strongest ∈ tbG := tw8 100 rfl rfl
set_option maxRecDepth 100000 in
theorem lwd_1881 : Cond.instanceMethod yX10_strongest ∈ tbG := tw8 101 rfl rfl
set_option maxRecDepth 100000 in
theorem lwd_1882 : Cond.selects "SunnyPansModel" yX10_strongest yX10_strongest ∈ tbG := tw8 102 rfl rfl
set_option maxRecDepth 100000 in
theorem lwd_1883 : Cond.code yX10_strongest cX10_strongest 4 (some .int) ∈ tbG := tw8 103 rfl rfl
theorem lcvX10_strongest : zCV "SunnyPansLaw" 208 "SunnyPansModel" yX10_strongest cX10_strongest 4 (some .int) 1 := zCV_of lwd_1880 lwd_1881 lwd_1882 lwd_111 lwd_1883 (by decide +kernel)
theorem dL_law__1761 : decode code 1761 = .ok (.invokevirtual 208, 3) := by decide +kernel
theorem dL_law__1764 : decode code 1764 = .ok (.istore 6, 2) := by decide +kernel
theorem dL_law__1766 : decode code 1766 = .ok (.aload_n 2, 1) := by decide +kernel
theorem dL_law__1767 : decode code 1767 = .ok (.invokevirtual 133, 3) := by decide +kernel
theorem dL_law__1770 : decode code 1770 = .ok (.iload 5, 2) := by decide +kernel
theorem dL_law__1772 : decode code 1772 = .ok (.if_icmp .eq 5, 3) := by decide +kernel
theorem dL_law__1777 : decode code 1777 = .ok (.iload 5, 2) := by decide +kernel
theorem dL_law__1779 : decode code 1779 = .ok (.ifCond .ne 15, 3) := by decide +kernel
theorem dL_law__1794 : decode code 1794 = .ok (.goto 971, 3) := by decide +kernel
theorem dL_law__1782 : decode code 1782 = .ok (.aload_n 3, 1) := by decide +kernel
theorem dL_law__1783 : decode code 1783 = .ok (.iconst 0, 1) := by decide +kernel
theorem dL_law__1784 : decode code 1784 = .ok (.laload, 1) := by decide +kernel
theorem dL_law__1785 : decode code 1785 = .ok (.iload 6, 2) := by decide +kernel
theorem dL_law__1787 : decode code 1787 = .ok (.i2l, 1) := by decide +kernel
theorem dL_law__1788 : decode code 1788 = .ok (.lcmp, 1) := by decide +kernel
theorem dL_law__1789 : decode code 1789 = .ok (.ifCond .eq 5, 3) := by decide +kernel
set_option maxHeartbeats 4000000 in
theorem lc_strongest {p : Program} {l : Launch} {e : Env} {s : State} {m : MethodId} {below : List Frame} {meth : Method} {c : Code} {G : zG} {b L i cells slots : Nat} {xs : Nat → Int32} {Q : State → Prop} (C : LW9 p l s m meth c G b L xs) (hi : i + 9 ≤ L) (hcell : cells + 4 ≤ room_1.cells ∧ slots + 24 ≤ room_1.slots) (kk : LK9 p l e s m below meth c G b i Q cells slots) : LC9 p l e s m below meth c G b i Q cells slots 1741 := by
  intro Mx Mm v S hXo hMn ok
  obtain ⟨cx, hX, hbl, hL, hl, hN⟩ := C
  have hbA : ¬ (fun q => s.heap.size ≤ q) b := Nat.not_le.mpr hbl
  have hA : ∀ q, s.heap.size ≤ q → (fun q => s.heap.size ≤ q) q := fun _ h => h
  obtain ⟨k, vx, Mx', w, Mm', t, S', hF, hG, hth, hT, hv, hX', hM', ok'⟩ := q_strongest (xs (i + 1)) hXo hMn ok
  obtain ⟨v', hk, hv0⟩ := hkT1 (v := v) hT hv
  have hthr : F_X10_thrown Mm' = some (nI t, Mm') := by unfold F_X10_thrown; rw [hth]
  refine l_aload_n cx dL_law__1741 1 rfl ?_
  refine l_arg cx hX hbl hbA (j := 1) (by omega) hL 0 4 rfl rfl li_1 dL_law__1742 dL_law__1743 dL_law__1745 dL_law__1746 dL_law__1747 ?_
  refine l_aload_n cx dL_law__1748 3 rfl ?_
  refine l_callWL (na := 3) (As := [.ref (adX s.heap.size 0), .int (xs (i + 1)), .ref (aoL s.heap.size)]) (rest := []) cx hA (cw_strongest l (adX_in _) Mx v (xs (i + 1)) hl hF hk) lwd_1266 lwd_1267 lwd_100 lwd_1268 (by decide +kernel) ⟨rfl, rfl, Nat.le_of_ble_eq_true rfl, Nat.le_of_ble_eq_true rfl⟩ rfl rfl ⟨by decide, by decide⟩ hcell (Nat.le_of_ble_eq_true rfl) dL_law__1749 hN ?_
  refine l_istore cx 5 ((5, .int (nI t)) :: lvL b s.heap.size i) dL_law__1752 (by decide) rfl ?_
  refine l_aload_n cx dL_law__1754 3 rfl ?_
  refine l_arg cx hX hbl hbA (j := 1) (by omega) hL 1 5 rfl rfl li_1 dL_law__1755 dL_law__1756 dL_law__1758 dL_law__1759 dL_law__1760 ?_
  refine l_callML (As := [.int (xs (i + 1))]) (rest := []) cx hA (c_X10_strongest l (adM_in _) Mm (xs (i + 1)) lTM hG) lcvX10_strongest ⟨rfl, rfl, Nat.le_of_ble_eq_true rfl, Nat.le_of_ble_eq_true rfl⟩ rfl rfl hcell (Nat.le_of_ble_eq_true rfl) dL_law__1761 ?_
  refine l_istore cx 6 ((6, .int w) :: (5, .int (nI t)) :: lvL b s.heap.size i) dL_law__1764 (by decide) rfl ?_
  refine l_aload_n cx dL_law__1766 4 rfl ?_
  refine l_callML (As := []) (rest := []) cx hA (c_X10_thrown l (adM_in _) Mm' lTM hthr) lcvX10_thrown ⟨rfl, rfl, Nat.le_of_ble_eq_true rfl, Nat.le_of_ble_eq_true rfl⟩ rfl rfl hcell (Nat.le_of_ble_eq_true rfl) dL_law__1767 ?_
  refine l_iload cx dL_law__1770 1 rfl ?_
  refine l_icmp_eq cx 1777 dL_law__1772 (by decide) (fun _ => ?_) (fun h => absurd rfl h)
  refine l_iload cx dL_law__1777 1 rfl ?_
  refine l_if_ne cx 1794 dL_law__1779 (by decide) (fun _ => ?_) (fun h0 => ?_)
  · refine l_goto cx 2765 dL_law__1794 (by decide) ?_
    refine l_sub [2, 3, 4, 5, 6] rfl ?_
    exact kk _ _ _ _ hX' hM' ok'
  · refine l_aload_n cx dL_law__1782 5 rfl ?_
    refine l_iconst cx dL_law__1783 ki_0 ?_
    refine l_laldL cx dL_law__1784 ?_
    refine l_iload cx dL_law__1785 0 rfl ?_
    refine l_i2l cx dL_law__1787 ?_
    refine l_lcmp cx dL_law__1788 ?_
    rw [hv0 h0, lgc_self]
    refine l_if_eq cx 1794 dL_law__1789 (by decide) (fun _ => ?_) (fun h => absurd rfl h)
    refine l_goto cx 2765 dL_law__1794 (by decide) ?_
    refine l_sub [2, 3, 4, 5, 6] rfl ?_
    refine l_conv (P' := LPw G s.heap.size Mx' Mm' v') (fun _ h => by rw [hv0 h0]; exact h) ?_
    exact kk _ _ _ _ hX' hM' ok'
theorem dL_law__1797 : decode code 1797 = .ok (.aload_n 1, 1) := by decide +kernel
theorem dL_law__1798 : decode code 1798 = .ok (.aload_n 0, 1) := by decide +kernel
theorem dL_law__1799 : decode code 1799 = .ok (.iload 4, 2) := by decide +kernel
theorem dL_law__1801 : decode code 1801 = .ok (.iconst 1, 1) := by decide +kernel
theorem dL_law__1802 : decode code 1802 = .ok (.iadd, 1) := by decide +kernel
theorem dL_law__1803 : decode code 1803 = .ok (.iaload, 1) := by decide +kernel
theorem dL_law__1804 : decode code 1804 = .ok (.aload_n 3, 1) := by decide +kernel
set_option maxRecDepth 100000 in
theorem lwd_1273 : Cond.methodLink "SunnyPansLaw" 209 yL_greatest ∈ tbG := tw5 213 rfl rfl
set_option maxRecDepth 100000 in
theorem lwd_1274 : Cond.static yL_greatest ∈ tbG := tw5 214 rfl rfl
set_option maxRecDepth 100000 in
theorem lwd_1275 : Cond.codeWith yL_greatest cL_greatest 4 (some .int) [(0, 9, 12, 13)] ∈ tbG := tw5 215 rfl rfl
theorem dL_law__1805 : decode code 1805 = .ok (.invokestatic 209, 3) := by decide +kernel
theorem dL_law__1808 : decode code 1808 = .ok (.istore 5, 2) := by decide +kernel
theorem dL_law__1810 : decode code 1810 = .ok (.aload_n 2, 1) := by decide +kernel
theorem dL_law__1811 : decode code 1811 = .ok (.aload_n 0, 1) := by decide +kernel
theorem dL_law__1812 : decode code 1812 = .ok (.iload 4, 2) := by decide +kernel
theorem dL_law__1814 : decode code 1814 = .ok (.iconst 1, 1) := by decide +kernel
theorem dL_law__1815 : decode code 1815 = .ok (.iadd, 1) := by decide +kernel
theorem dL_law__1816 : decode code 1816 = .ok (.iaload, 1) := by decide +kernel
set_option maxRecDepth 100000 in
theorem lwd_1884 : Cond.methodLink "SunnyPansLaw" 211 yX10_greatest ∈ tbG := tw8 104 rfl rfl
set_option maxRecDepth 100000 in
theorem lwd_1885 : Cond.instanceMethod yX10_greatest ∈ tbG := tw8 105 rfl rfl
set_option maxRecDepth 100000 in
theorem lwd_1886 : Cond.selects "SunnyPansModel" yX10_greatest yX10_greatest ∈ tbG := tw8 106 rfl rfl
set_option maxRecDepth 100000 in
theorem lwd_1887 : Cond.code yX10_greatest cX10_greatest 4 (some .int) ∈ tbG := tw8 107 rfl rfl
theorem lcvX10_greatest : zCV "SunnyPansLaw" 211 "SunnyPansModel" yX10_greatest cX10_greatest 4 (some .int) 1 := zCV_of lwd_1884 lwd_1885 lwd_1886 lwd_111 lwd_1887 (by decide +kernel)
theorem dL_law__1817 : decode code 1817 = .ok (.invokevirtual 211, 3) := by decide +kernel
theorem dL_law__1820 : decode code 1820 = .ok (.istore 6, 2) := by decide +kernel
theorem dL_law__1822 : decode code 1822 = .ok (.aload_n 2, 1) := by decide +kernel
theorem dL_law__1823 : decode code 1823 = .ok (.invokevirtual 133, 3) := by decide +kernel
theorem dL_law__1826 : decode code 1826 = .ok (.iload 5, 2) := by decide +kernel
theorem dL_law__1828 : decode code 1828 = .ok (.if_icmp .eq 5, 3) := by decide +kernel
theorem dL_law__1833 : decode code 1833 = .ok (.iload 5, 2) := by decide +kernel
theorem dL_law__1835 : decode code 1835 = .ok (.ifCond .ne 15, 3) := by decide +kernel
theorem dL_law__1850 : decode code 1850 = .ok (.goto 915, 3) := by decide +kernel
theorem dL_law__1838 : decode code 1838 = .ok (.aload_n 3, 1) := by decide +kernel
theorem dL_law__1839 : decode code 1839 = .ok (.iconst 0, 1) := by decide +kernel
theorem dL_law__1840 : decode code 1840 = .ok (.laload, 1) := by decide +kernel
theorem dL_law__1841 : decode code 1841 = .ok (.iload 6, 2) := by decide +kernel
theorem dL_law__1843 : decode code 1843 = .ok (.i2l, 1) := by decide +kernel
theorem dL_law__1844 : decode code 1844 = .ok (.lcmp, 1) := by decide +kernel
theorem dL_law__1845 : decode code 1845 = .ok (.ifCond .eq 5, 3) := by decide +kernel
set_option maxHeartbeats 4000000 in
theorem lc_greatest {p : Program} {l : Launch} {e : Env} {s : State} {m : MethodId} {below : List Frame} {meth : Method} {c : Code} {G : zG} {b L i cells slots : Nat} {xs : Nat → Int32} {Q : State → Prop} (C : LW9 p l s m meth c G b L xs) (hi : i + 9 ≤ L) (hcell : cells + 4 ≤ room_1.cells ∧ slots + 24 ≤ room_1.slots) (kk : LK9 p l e s m below meth c G b i Q cells slots) : LC9 p l e s m below meth c G b i Q cells slots 1797 := by
  intro Mx Mm v S hXo hMn ok
  obtain ⟨cx, hX, hbl, hL, hl, hN⟩ := C
  have hbA : ¬ (fun q => s.heap.size ≤ q) b := Nat.not_le.mpr hbl
  have hA : ∀ q, s.heap.size ≤ q → (fun q => s.heap.size ≤ q) q := fun _ h => h
  obtain ⟨k, vx, Mx', w, Mm', t, S', hF, hG, hth, hT, hv, hX', hM', ok'⟩ := q_greatest (xs (i + 1)) hXo hMn ok
  obtain ⟨v', hk, hv0⟩ := hkT1 (v := v) hT hv
  have hthr : F_X10_thrown Mm' = some (nI t, Mm') := by unfold F_X10_thrown; rw [hth]
  refine l_aload_n cx dL_law__1797 1 rfl ?_
  refine l_arg cx hX hbl hbA (j := 1) (by omega) hL 0 4 rfl rfl li_1 dL_law__1798 dL_law__1799 dL_law__1801 dL_law__1802 dL_law__1803 ?_
  refine l_aload_n cx dL_law__1804 3 rfl ?_
  refine l_callWL (na := 3) (As := [.ref (adX s.heap.size 0), .int (xs (i + 1)), .ref (aoL s.heap.size)]) (rest := []) cx hA (cw_greatest l (adX_in _) Mx v (xs (i + 1)) hl hF hk) lwd_1273 lwd_1274 lwd_100 lwd_1275 (by decide +kernel) ⟨rfl, rfl, Nat.le_of_ble_eq_true rfl, Nat.le_of_ble_eq_true rfl⟩ rfl rfl ⟨by decide, by decide⟩ hcell (Nat.le_of_ble_eq_true rfl) dL_law__1805 hN ?_
  refine l_istore cx 5 ((5, .int (nI t)) :: lvL b s.heap.size i) dL_law__1808 (by decide) rfl ?_
  refine l_aload_n cx dL_law__1810 3 rfl ?_
  refine l_arg cx hX hbl hbA (j := 1) (by omega) hL 1 5 rfl rfl li_1 dL_law__1811 dL_law__1812 dL_law__1814 dL_law__1815 dL_law__1816 ?_
  refine l_callML (As := [.int (xs (i + 1))]) (rest := []) cx hA (c_X10_greatest l (adM_in _) Mm (xs (i + 1)) lTM hG) lcvX10_greatest ⟨rfl, rfl, Nat.le_of_ble_eq_true rfl, Nat.le_of_ble_eq_true rfl⟩ rfl rfl hcell (Nat.le_of_ble_eq_true rfl) dL_law__1817 ?_
  refine l_istore cx 6 ((6, .int w) :: (5, .int (nI t)) :: lvL b s.heap.size i) dL_law__1820 (by decide) rfl ?_
  refine l_aload_n cx dL_law__1822 4 rfl ?_
  refine l_callML (As := []) (rest := []) cx hA (c_X10_thrown l (adM_in _) Mm' lTM hthr) lcvX10_thrown ⟨rfl, rfl, Nat.le_of_ble_eq_true rfl, Nat.le_of_ble_eq_true rfl⟩ rfl rfl hcell (Nat.le_of_ble_eq_true rfl) dL_law__1823 ?_
  refine l_iload cx dL_law__1826 1 rfl ?_
  refine l_icmp_eq cx 1833 dL_law__1828 (by decide) (fun _ => ?_) (fun h => absurd rfl h)
  refine l_iload cx dL_law__1833 1 rfl ?_
  refine l_if_ne cx 1850 dL_law__1835 (by decide) (fun _ => ?_) (fun h0 => ?_)
  · refine l_goto cx 2765 dL_law__1850 (by decide) ?_
    refine l_sub [2, 3, 4, 5, 6] rfl ?_
    exact kk _ _ _ _ hX' hM' ok'
  · refine l_aload_n cx dL_law__1838 5 rfl ?_
    refine l_iconst cx dL_law__1839 ki_0 ?_
    refine l_laldL cx dL_law__1840 ?_
    refine l_iload cx dL_law__1841 0 rfl ?_
    refine l_i2l cx dL_law__1843 ?_
    refine l_lcmp cx dL_law__1844 ?_
    rw [hv0 h0, lgc_self]
    refine l_if_eq cx 1850 dL_law__1845 (by decide) (fun _ => ?_) (fun h => absurd rfl h)
    refine l_goto cx 2765 dL_law__1850 (by decide) ?_
    refine l_sub [2, 3, 4, 5, 6] rfl ?_
    refine l_conv (P' := LPw G s.heap.size Mx' Mm' v') (fun _ h => by rw [hv0 h0]; exact h) ?_
    exact kk _ _ _ _ hX' hM' ok'
theorem dL_law__1853 : decode code 1853 = .ok (.aload_n 1, 1) := by decide +kernel
theorem dL_law__1854 : decode code 1854 = .ok (.aload_n 0, 1) := by decide +kernel
theorem dL_law__1855 : decode code 1855 = .ok (.iload 4, 2) := by decide +kernel
theorem dL_law__1857 : decode code 1857 = .ok (.iconst 1, 1) := by decide +kernel
theorem dL_law__1858 : decode code 1858 = .ok (.iadd, 1) := by decide +kernel
theorem dL_law__1859 : decode code 1859 = .ok (.iaload, 1) := by decide +kernel
theorem dL_law__1860 : decode code 1860 = .ok (.aload_n 0, 1) := by decide +kernel
theorem dL_law__1861 : decode code 1861 = .ok (.iload 4, 2) := by decide +kernel
theorem dL_law__1863 : decode code 1863 = .ok (.iconst 2, 1) := by decide +kernel
theorem dL_law__1864 : decode code 1864 = .ok (.iadd, 1) := by decide +kernel
theorem dL_law__1865 : decode code 1865 = .ok (.iaload, 1) := by decide +kernel
theorem dL_law__1866 : decode code 1866 = .ok (.aload_n 0, 1) := by decide +kernel
theorem dL_law__1867 : decode code 1867 = .ok (.iload 4, 2) := by decide +kernel
theorem dL_law__1869 : decode code 1869 = .ok (.iconst 3, 1) := by decide +kernel
theorem dL_law__1870 : decode code 1870 = .ok (.iadd, 1) := by decide +kernel
theorem dL_law__1871 : decode code 1871 = .ok (.iaload, 1) := by decide +kernel
theorem dL_law__1872 : decode code 1872 = .ok (.aload_n 3, 1) := by decide +kernel
set_option maxRecDepth 100000 in
theorem lwd_1280 : Cond.methodLink "SunnyPansLaw" 212 yL_cast ∈ tbG := tw5 220 rfl rfl
set_option maxRecDepth 100000 in
theorem lwd_1281 : Cond.static yL_cast ∈ tbG := tw5 221 rfl rfl
set_option maxRecDepth 100000 in
theorem lwd_1282 : Cond.codeWith yL_cast cL_cast 6 (some .int) [(0, 12, 15, 31)] ∈ tbG := tw5 222 rfl rfl
theorem dL_law__1873 : decode code 1873 = .ok (.invokestatic 212, 3) := by decide +kernel
theorem dL_law__1876 : decode code 1876 = .ok (.istore 5, 2) := by decide +kernel
theorem dL_law__1878 : decode code 1878 = .ok (.aload_n 2, 1) := by decide +kernel
theorem dL_law__1879 : decode code 1879 = .ok (.aload_n 0, 1) := by decide +kernel
theorem dL_law__1880 : decode code 1880 = .ok (.iload 4, 2) := by decide +kernel
theorem dL_law__1882 : decode code 1882 = .ok (.iconst 1, 1) := by decide +kernel
theorem dL_law__1883 : decode code 1883 = .ok (.iadd, 1) := by decide +kernel
theorem dL_law__1884 : decode code 1884 = .ok (.iaload, 1) := by decide +kernel
theorem dL_law__1885 : decode code 1885 = .ok (.aload_n 0, 1) := by decide +kernel
theorem dL_law__1886 : decode code 1886 = .ok (.iload 4, 2) := by decide +kernel
theorem dL_law__1888 : decode code 1888 = .ok (.iconst 2, 1) := by decide +kernel
theorem dL_law__1889 : decode code 1889 = .ok (.iadd, 1) := by decide +kernel
theorem dL_law__1890 : decode code 1890 = .ok (.iaload, 1) := by decide +kernel
theorem dL_law__1891 : decode code 1891 = .ok (.aload_n 0, 1) := by decide +kernel
theorem dL_law__1892 : decode code 1892 = .ok (.iload 4, 2) := by decide +kernel
theorem dL_law__1894 : decode code 1894 = .ok (.iconst 3, 1) := by decide +kernel
theorem dL_law__1895 : decode code 1895 = .ok (.iadd, 1) := by decide +kernel
theorem dL_law__1896 : decode code 1896 = .ok (.iaload, 1) := by decide +kernel
set_option maxRecDepth 100000 in
theorem lwd_1888 : Cond.methodLink "SunnyPansLaw" 214 yX10_cast ∈ tbG := tw8 108 rfl rfl
set_option maxRecDepth 100000 in
theorem lwd_1889 : Cond.instanceMethod yX10_cast ∈ tbG := tw8 109 rfl rfl
set_option maxRecDepth 100000 in
theorem lwd_1890 : Cond.selects "SunnyPansModel" yX10_cast yX10_cast ∈ tbG := tw8 110 rfl rfl
set_option maxRecDepth 100000 in
theorem lwd_1891 : Cond.code yX10_cast cX10_cast 7 (some .int) ∈ tbG := tw8 111 rfl rfl
theorem lcvX10_cast : zCV "SunnyPansLaw" 214 "SunnyPansModel" yX10_cast cX10_cast 7 (some .int) 3 := zCV_of lwd_1888 lwd_1889 lwd_1890 lwd_111 lwd_1891 (by decide +kernel)
theorem dL_law__1897 : decode code 1897 = .ok (.invokevirtual 214, 3) := by decide +kernel
theorem dL_law__1900 : decode code 1900 = .ok (.istore 6, 2) := by decide +kernel
theorem dL_law__1902 : decode code 1902 = .ok (.aload_n 2, 1) := by decide +kernel
theorem dL_law__1903 : decode code 1903 = .ok (.invokevirtual 133, 3) := by decide +kernel
theorem dL_law__1906 : decode code 1906 = .ok (.iload 5, 2) := by decide +kernel
theorem dL_law__1908 : decode code 1908 = .ok (.if_icmp .eq 5, 3) := by decide +kernel
theorem dL_law__1913 : decode code 1913 = .ok (.iload 5, 2) := by decide +kernel
theorem dL_law__1915 : decode code 1915 = .ok (.ifCond .ne 15, 3) := by decide +kernel
theorem dL_law__1930 : decode code 1930 = .ok (.goto 835, 3) := by decide +kernel
theorem dL_law__1918 : decode code 1918 = .ok (.aload_n 3, 1) := by decide +kernel
theorem dL_law__1919 : decode code 1919 = .ok (.iconst 0, 1) := by decide +kernel
theorem dL_law__1920 : decode code 1920 = .ok (.laload, 1) := by decide +kernel
theorem dL_law__1921 : decode code 1921 = .ok (.iload 6, 2) := by decide +kernel
theorem dL_law__1923 : decode code 1923 = .ok (.i2l, 1) := by decide +kernel
theorem dL_law__1924 : decode code 1924 = .ok (.lcmp, 1) := by decide +kernel
theorem dL_law__1925 : decode code 1925 = .ok (.ifCond .eq 5, 3) := by decide +kernel
set_option maxHeartbeats 4000000 in
theorem lc_cast {p : Program} {l : Launch} {e : Env} {s : State} {m : MethodId} {below : List Frame} {meth : Method} {c : Code} {G : zG} {b L i cells slots : Nat} {xs : Nat → Int32} {Q : State → Prop} (C : LW9 p l s m meth c G b L xs) (hi : i + 9 ≤ L) (hcell : cells + 4 ≤ room_1.cells ∧ slots + 24 ≤ room_1.slots) (kk : LK9 p l e s m below meth c G b i Q cells slots) : LC9 p l e s m below meth c G b i Q cells slots 1853 := by
  intro Mx Mm v S hXo hMn ok
  obtain ⟨cx, hX, hbl, hL, hl, hN⟩ := C
  have hbA : ¬ (fun q => s.heap.size ≤ q) b := Nat.not_le.mpr hbl
  have hA : ∀ q, s.heap.size ≤ q → (fun q => s.heap.size ≤ q) q := fun _ h => h
  obtain ⟨k, vx, Mx', w, Mm', t, S', hF, hG, hth, hT, hv, hX', hM', ok'⟩ := q_cast (xs (i + 1)) (xs (i + 2)) (xs (i + 3)) hXo hMn ok
  obtain ⟨v', hk, hv0⟩ := hkT2 (v := v) hT hv
  have hthr : F_X10_thrown Mm' = some (nI t, Mm') := by unfold F_X10_thrown; rw [hth]
  refine l_aload_n cx dL_law__1853 1 rfl ?_
  refine l_arg cx hX hbl hbA (j := 1) (by omega) hL 0 4 rfl rfl li_1 dL_law__1854 dL_law__1855 dL_law__1857 dL_law__1858 dL_law__1859 ?_
  refine l_arg cx hX hbl hbA (j := 2) (by omega) hL 0 4 rfl rfl li_2 dL_law__1860 dL_law__1861 dL_law__1863 dL_law__1864 dL_law__1865 ?_
  refine l_arg cx hX hbl hbA (j := 3) (by omega) hL 0 4 rfl rfl li_3 dL_law__1866 dL_law__1867 dL_law__1869 dL_law__1870 dL_law__1871 ?_
  refine l_aload_n cx dL_law__1872 3 rfl ?_
  refine l_callWL (na := 5) (As := [.ref (adX s.heap.size 0), .int (xs (i + 1)), .int (xs (i + 2)), .int (xs (i + 3)), .ref (aoL s.heap.size)]) (rest := []) cx hA (cw_cast l (adX_in _) Mx v (xs (i + 1)) (xs (i + 2)) (xs (i + 3)) hl hF hk) lwd_1280 lwd_1281 lwd_100 lwd_1282 (by decide +kernel) ⟨rfl, rfl, Nat.le_of_ble_eq_true rfl, Nat.le_of_ble_eq_true rfl⟩ rfl rfl ⟨by decide, by decide⟩ hcell (Nat.le_of_ble_eq_true rfl) dL_law__1873 hN ?_
  refine l_istore cx 5 ((5, .int (nI t)) :: lvL b s.heap.size i) dL_law__1876 (by decide) rfl ?_
  refine l_aload_n cx dL_law__1878 3 rfl ?_
  refine l_arg cx hX hbl hbA (j := 1) (by omega) hL 1 5 rfl rfl li_1 dL_law__1879 dL_law__1880 dL_law__1882 dL_law__1883 dL_law__1884 ?_
  refine l_arg cx hX hbl hbA (j := 2) (by omega) hL 1 5 rfl rfl li_2 dL_law__1885 dL_law__1886 dL_law__1888 dL_law__1889 dL_law__1890 ?_
  refine l_arg cx hX hbl hbA (j := 3) (by omega) hL 1 5 rfl rfl li_3 dL_law__1891 dL_law__1892 dL_law__1894 dL_law__1895 dL_law__1896 ?_
  refine l_callML (As := [.int (xs (i + 1)), .int (xs (i + 2)), .int (xs (i + 3))]) (rest := []) cx hA (c_X10_cast l (adM_in _) Mm (xs (i + 1)) (xs (i + 2)) (xs (i + 3)) lTM hG) lcvX10_cast ⟨rfl, rfl, Nat.le_of_ble_eq_true rfl, Nat.le_of_ble_eq_true rfl⟩ rfl rfl hcell (Nat.le_of_ble_eq_true rfl) dL_law__1897 ?_
  refine l_istore cx 6 ((6, .int w) :: (5, .int (nI t)) :: lvL b s.heap.size i) dL_law__1900 (by decide) rfl ?_
  refine l_aload_n cx dL_law__1902 4 rfl ?_
  refine l_callML (As := []) (rest := []) cx hA (c_X10_thrown l (adM_in _) Mm' lTM hthr) lcvX10_thrown ⟨rfl, rfl, Nat.le_of_ble_eq_true rfl, Nat.le_of_ble_eq_true rfl⟩ rfl rfl hcell (Nat.le_of_ble_eq_true rfl) dL_law__1903 ?_
  refine l_iload cx dL_law__1906 1 rfl ?_
  refine l_icmp_eq cx 1913 dL_law__1908 (by decide) (fun _ => ?_) (fun h => absurd rfl h)
  refine l_iload cx dL_law__1913 1 rfl ?_
  refine l_if_ne cx 1930 dL_law__1915 (by decide) (fun _ => ?_) (fun h0 => ?_)
  · refine l_goto cx 2765 dL_law__1930 (by decide) ?_
    refine l_sub [2, 3, 4, 5, 6] rfl ?_
    exact kk _ _ _ _ hX' hM' ok'
  · refine l_aload_n cx dL_law__1918 5 rfl ?_
    refine l_iconst cx dL_law__1919 ki_0 ?_
    refine l_laldL cx dL_law__1920 ?_
    refine l_iload cx dL_law__1921 0 rfl ?_
    refine l_i2l cx dL_law__1923 ?_
    refine l_lcmp cx dL_law__1924 ?_
    rw [hv0 h0, lgc_self]
    refine l_if_eq cx 1930 dL_law__1925 (by decide) (fun _ => ?_) (fun h => absurd rfl h)
    refine l_goto cx 2765 dL_law__1930 (by decide) ?_
    refine l_sub [2, 3, 4, 5, 6] rfl ?_
    refine l_conv (P' := LPw G s.heap.size Mx' Mm' v') (fun _ h => by rw [hv0 h0]; exact h) ?_
    exact kk _ _ _ _ hX' hM' ok'
theorem dL_law__1933 : decode code 1933 = .ok (.aload_n 1, 1) := by decide +kernel
theorem dL_law__1934 : decode code 1934 = .ok (.aload_n 0, 1) := by decide +kernel
theorem dL_law__1935 : decode code 1935 = .ok (.iload 4, 2) := by decide +kernel
theorem dL_law__1937 : decode code 1937 = .ok (.iconst 1, 1) := by decide +kernel
theorem dL_law__1938 : decode code 1938 = .ok (.iadd, 1) := by decide +kernel
theorem dL_law__1939 : decode code 1939 = .ok (.iaload, 1) := by decide +kernel
theorem dL_law__1940 : decode code 1940 = .ok (.aload_n 0, 1) := by decide +kernel
theorem dL_law__1941 : decode code 1941 = .ok (.iload 4, 2) := by decide +kernel
theorem dL_law__1943 : decode code 1943 = .ok (.iconst 2, 1) := by decide +kernel
theorem dL_law__1944 : decode code 1944 = .ok (.iadd, 1) := by decide +kernel
theorem dL_law__1945 : decode code 1945 = .ok (.iaload, 1) := by decide +kernel
theorem dL_law__1946 : decode code 1946 = .ok (.aload_n 0, 1) := by decide +kernel
theorem dL_law__1947 : decode code 1947 = .ok (.iload 4, 2) := by decide +kernel
theorem dL_law__1949 : decode code 1949 = .ok (.iconst 3, 1) := by decide +kernel
theorem dL_law__1950 : decode code 1950 = .ok (.iadd, 1) := by decide +kernel
theorem dL_law__1951 : decode code 1951 = .ok (.iaload, 1) := by decide +kernel
theorem dL_law__1952 : decode code 1952 = .ok (.aload_n 3, 1) := by decide +kernel
set_option maxRecDepth 100000 in
theorem lwd_1288 : Cond.methodLink "SunnyPansLaw" 215 yL_ready ∈ tbG := tw5 228 rfl rfl
set_option maxRecDepth 100000 in
theorem lwd_1289 : Cond.static yL_ready ∈ tbG := tw5 229 rfl rfl
set_option maxRecDepth 100000 in
theorem lwd_1290 : Cond.codeWith yL_ready cL_ready 6 (some .int) [(0, 12, 15, 31)] ∈ tbG := tw5 230 rfl rfl
theorem dL_law__1953 : decode code 1953 = .ok (.invokestatic 215, 3) := by decide +kernel
theorem dL_law__1956 : decode code 1956 = .ok (.istore 5, 2) := by decide +kernel
theorem dL_law__1958 : decode code 1958 = .ok (.aload_n 2, 1) := by decide +kernel
theorem dL_law__1959 : decode code 1959 = .ok (.aload_n 0, 1) := by decide +kernel
theorem dL_law__1960 : decode code 1960 = .ok (.iload 4, 2) := by decide +kernel
theorem dL_law__1962 : decode code 1962 = .ok (.iconst 1, 1) := by decide +kernel
theorem dL_law__1963 : decode code 1963 = .ok (.iadd, 1) := by decide +kernel
theorem dL_law__1964 : decode code 1964 = .ok (.iaload, 1) := by decide +kernel
theorem dL_law__1965 : decode code 1965 = .ok (.aload_n 0, 1) := by decide +kernel
theorem dL_law__1966 : decode code 1966 = .ok (.iload 4, 2) := by decide +kernel
theorem dL_law__1968 : decode code 1968 = .ok (.iconst 2, 1) := by decide +kernel
theorem dL_law__1969 : decode code 1969 = .ok (.iadd, 1) := by decide +kernel
theorem dL_law__1970 : decode code 1970 = .ok (.iaload, 1) := by decide +kernel
theorem dL_law__1971 : decode code 1971 = .ok (.aload_n 0, 1) := by decide +kernel
theorem dL_law__1972 : decode code 1972 = .ok (.iload 4, 2) := by decide +kernel
theorem dL_law__1974 : decode code 1974 = .ok (.iconst 3, 1) := by decide +kernel
theorem dL_law__1975 : decode code 1975 = .ok (.iadd, 1) := by decide +kernel
theorem dL_law__1976 : decode code 1976 = .ok (.iaload, 1) := by decide +kernel
set_option maxRecDepth 100000 in
theorem lwd_1892 : Cond.methodLink "SunnyPansLaw" 217 yX10_ready ∈ tbG := tw8 112 rfl rfl
set_option maxRecDepth 100000 in
theorem lwd_1893 : Cond.instanceMethod yX10_ready ∈ tbG := tw8 113 rfl rfl
set_option maxRecDepth 100000 in
theorem lwd_1894 : Cond.selects "SunnyPansModel" yX10_ready yX10_ready ∈ tbG := tw8 114 rfl rfl
set_option maxRecDepth 100000 in
theorem lwd_1895 : Cond.code yX10_ready cX10_ready 6 (some .int) ∈ tbG := tw8 115 rfl rfl
theorem lcvX10_ready : zCV "SunnyPansLaw" 217 "SunnyPansModel" yX10_ready cX10_ready 6 (some .int) 3 := zCV_of lwd_1892 lwd_1893 lwd_1894 lwd_111 lwd_1895 (by decide +kernel)
theorem dL_law__1977 : decode code 1977 = .ok (.invokevirtual 217, 3) := by decide +kernel
theorem dL_law__1980 : decode code 1980 = .ok (.istore 6, 2) := by decide +kernel
theorem dL_law__1982 : decode code 1982 = .ok (.aload_n 2, 1) := by decide +kernel
theorem dL_law__1983 : decode code 1983 = .ok (.invokevirtual 133, 3) := by decide +kernel
theorem dL_law__1986 : decode code 1986 = .ok (.iload 5, 2) := by decide +kernel
theorem dL_law__1988 : decode code 1988 = .ok (.if_icmp .eq 5, 3) := by decide +kernel
theorem dL_law__1993 : decode code 1993 = .ok (.iload 5, 2) := by decide +kernel
theorem dL_law__1995 : decode code 1995 = .ok (.ifCond .ne 15, 3) := by decide +kernel
theorem dL_law__2010 : decode code 2010 = .ok (.goto 755, 3) := by decide +kernel
theorem dL_law__1998 : decode code 1998 = .ok (.aload_n 3, 1) := by decide +kernel
theorem dL_law__1999 : decode code 1999 = .ok (.iconst 0, 1) := by decide +kernel
theorem dL_law__2000 : decode code 2000 = .ok (.laload, 1) := by decide +kernel
theorem dL_law__2001 : decode code 2001 = .ok (.iload 6, 2) := by decide +kernel
theorem dL_law__2003 : decode code 2003 = .ok (.i2l, 1) := by decide +kernel
theorem dL_law__2004 : decode code 2004 = .ok (.lcmp, 1) := by decide +kernel
theorem dL_law__2005 : decode code 2005 = .ok (.ifCond .eq 5, 3) := by decide +kernel
set_option maxHeartbeats 4000000 in
theorem lc_ready {p : Program} {l : Launch} {e : Env} {s : State} {m : MethodId} {below : List Frame} {meth : Method} {c : Code} {G : zG} {b L i cells slots : Nat} {xs : Nat → Int32} {Q : State → Prop} (C : LW9 p l s m meth c G b L xs) (hi : i + 9 ≤ L) (hcell : cells + 4 ≤ room_1.cells ∧ slots + 24 ≤ room_1.slots) (kk : LK9 p l e s m below meth c G b i Q cells slots) : LC9 p l e s m below meth c G b i Q cells slots 1933 := by
  intro Mx Mm v S hXo hMn ok
  obtain ⟨cx, hX, hbl, hL, hl, hN⟩ := C
  have hbA : ¬ (fun q => s.heap.size ≤ q) b := Nat.not_le.mpr hbl
  have hA : ∀ q, s.heap.size ≤ q → (fun q => s.heap.size ≤ q) q := fun _ h => h
  obtain ⟨k, vx, Mx', w, Mm', t, S', hF, hG, hth, hT, hv, hX', hM', ok'⟩ := q_ready (xs (i + 1)) (xs (i + 2)) (xs (i + 3)) hXo hMn ok
  obtain ⟨v', hk, hv0⟩ := hkT2 (v := v) hT hv
  have hthr : F_X10_thrown Mm' = some (nI t, Mm') := by unfold F_X10_thrown; rw [hth]
  refine l_aload_n cx dL_law__1933 1 rfl ?_
  refine l_arg cx hX hbl hbA (j := 1) (by omega) hL 0 4 rfl rfl li_1 dL_law__1934 dL_law__1935 dL_law__1937 dL_law__1938 dL_law__1939 ?_
  refine l_arg cx hX hbl hbA (j := 2) (by omega) hL 0 4 rfl rfl li_2 dL_law__1940 dL_law__1941 dL_law__1943 dL_law__1944 dL_law__1945 ?_
  refine l_arg cx hX hbl hbA (j := 3) (by omega) hL 0 4 rfl rfl li_3 dL_law__1946 dL_law__1947 dL_law__1949 dL_law__1950 dL_law__1951 ?_
  refine l_aload_n cx dL_law__1952 3 rfl ?_
  refine l_callWL (na := 5) (As := [.ref (adX s.heap.size 0), .int (xs (i + 1)), .int (xs (i + 2)), .int (xs (i + 3)), .ref (aoL s.heap.size)]) (rest := []) cx hA (cw_ready l (adX_in _) Mx v (xs (i + 1)) (xs (i + 2)) (xs (i + 3)) hl hF hk) lwd_1288 lwd_1289 lwd_100 lwd_1290 (by decide +kernel) ⟨rfl, rfl, Nat.le_of_ble_eq_true rfl, Nat.le_of_ble_eq_true rfl⟩ rfl rfl ⟨by decide, by decide⟩ hcell (Nat.le_of_ble_eq_true rfl) dL_law__1953 hN ?_
  refine l_istore cx 5 ((5, .int (nI t)) :: lvL b s.heap.size i) dL_law__1956 (by decide) rfl ?_
  refine l_aload_n cx dL_law__1958 3 rfl ?_
  refine l_arg cx hX hbl hbA (j := 1) (by omega) hL 1 5 rfl rfl li_1 dL_law__1959 dL_law__1960 dL_law__1962 dL_law__1963 dL_law__1964 ?_
  refine l_arg cx hX hbl hbA (j := 2) (by omega) hL 1 5 rfl rfl li_2 dL_law__1965 dL_law__1966 dL_law__1968 dL_law__1969 dL_law__1970 ?_
  refine l_arg cx hX hbl hbA (j := 3) (by omega) hL 1 5 rfl rfl li_3 dL_law__1971 dL_law__1972 dL_law__1974 dL_law__1975 dL_law__1976 ?_
  refine l_callML (As := [.int (xs (i + 1)), .int (xs (i + 2)), .int (xs (i + 3))]) (rest := []) cx hA (c_X10_ready l (adM_in _) Mm (xs (i + 1)) (xs (i + 2)) (xs (i + 3)) lTM hG) lcvX10_ready ⟨rfl, rfl, Nat.le_of_ble_eq_true rfl, Nat.le_of_ble_eq_true rfl⟩ rfl rfl hcell (Nat.le_of_ble_eq_true rfl) dL_law__1977 ?_
  refine l_istore cx 6 ((6, .int w) :: (5, .int (nI t)) :: lvL b s.heap.size i) dL_law__1980 (by decide) rfl ?_
  refine l_aload_n cx dL_law__1982 4 rfl ?_
  refine l_callML (As := []) (rest := []) cx hA (c_X10_thrown l (adM_in _) Mm' lTM hthr) lcvX10_thrown ⟨rfl, rfl, Nat.le_of_ble_eq_true rfl, Nat.le_of_ble_eq_true rfl⟩ rfl rfl hcell (Nat.le_of_ble_eq_true rfl) dL_law__1983 ?_
  refine l_iload cx dL_law__1986 1 rfl ?_
  refine l_icmp_eq cx 1993 dL_law__1988 (by decide) (fun _ => ?_) (fun h => absurd rfl h)
  refine l_iload cx dL_law__1993 1 rfl ?_
  refine l_if_ne cx 2010 dL_law__1995 (by decide) (fun _ => ?_) (fun h0 => ?_)
  · refine l_goto cx 2765 dL_law__2010 (by decide) ?_
    refine l_sub [2, 3, 4, 5, 6] rfl ?_
    exact kk _ _ _ _ hX' hM' ok'
  · refine l_aload_n cx dL_law__1998 5 rfl ?_
    refine l_iconst cx dL_law__1999 ki_0 ?_
    refine l_laldL cx dL_law__2000 ?_
    refine l_iload cx dL_law__2001 0 rfl ?_
    refine l_i2l cx dL_law__2003 ?_
    refine l_lcmp cx dL_law__2004 ?_
    rw [hv0 h0, lgc_self]
    refine l_if_eq cx 2010 dL_law__2005 (by decide) (fun _ => ?_) (fun h => absurd rfl h)
    refine l_goto cx 2765 dL_law__2010 (by decide) ?_
    refine l_sub [2, 3, 4, 5, 6] rfl ?_
    refine l_conv (P' := LPw G s.heap.size Mx' Mm' v') (fun _ h => by rw [hv0 h0]; exact h) ?_
    exact kk _ _ _ _ hX' hM' ok'
theorem dL_law__2013 : decode code 2013 = .ok (.aload_n 1, 1) := by decide +kernel
theorem dL_law__2014 : decode code 2014 = .ok (.aload_n 0, 1) := by decide +kernel
theorem dL_law__2015 : decode code 2015 = .ok (.iload 4, 2) := by decide +kernel
theorem dL_law__2017 : decode code 2017 = .ok (.iconst 1, 1) := by decide +kernel
theorem dL_law__2018 : decode code 2018 = .ok (.iadd, 1) := by decide +kernel
theorem dL_law__2019 : decode code 2019 = .ok (.iaload, 1) := by decide +kernel
theorem dL_law__2020 : decode code 2020 = .ok (.aload_n 0, 1) := by decide +kernel
theorem dL_law__2021 : decode code 2021 = .ok (.iload 4, 2) := by decide +kernel
theorem dL_law__2023 : decode code 2023 = .ok (.iconst 2, 1) := by decide +kernel
theorem dL_law__2024 : decode code 2024 = .ok (.iadd, 1) := by decide +kernel
theorem dL_law__2025 : decode code 2025 = .ok (.iaload, 1) := by decide +kernel
theorem dL_law__2026 : decode code 2026 = .ok (.aload_n 3, 1) := by decide +kernel
set_option maxRecDepth 100000 in
theorem lwd_1296 : Cond.methodLink "SunnyPansLaw" 218 yL_line ∈ tbG := tw5 236 rfl rfl
set_option maxRecDepth 100000 in
theorem lwd_1297 : Cond.static yL_line ∈ tbG := tw5 237 rfl rfl
set_option maxRecDepth 100000 in
theorem lwd_1298 : Cond.codeWith yL_line cL_line 5 (some .int) [(0, 10, 13, 13)] ∈ tbG := tw5 238 rfl rfl
theorem dL_law__2027 : decode code 2027 = .ok (.invokestatic 218, 3) := by decide +kernel
theorem dL_law__2030 : decode code 2030 = .ok (.istore 5, 2) := by decide +kernel
theorem dL_law__2032 : decode code 2032 = .ok (.aload_n 2, 1) := by decide +kernel
theorem dL_law__2033 : decode code 2033 = .ok (.aload_n 0, 1) := by decide +kernel
theorem dL_law__2034 : decode code 2034 = .ok (.iload 4, 2) := by decide +kernel
theorem dL_law__2036 : decode code 2036 = .ok (.iconst 1, 1) := by decide +kernel
theorem dL_law__2037 : decode code 2037 = .ok (.iadd, 1) := by decide +kernel
theorem dL_law__2038 : decode code 2038 = .ok (.iaload, 1) := by decide +kernel
theorem dL_law__2039 : decode code 2039 = .ok (.aload_n 0, 1) := by decide +kernel
theorem dL_law__2040 : decode code 2040 = .ok (.iload 4, 2) := by decide +kernel
theorem dL_law__2042 : decode code 2042 = .ok (.iconst 2, 1) := by decide +kernel
theorem dL_law__2043 : decode code 2043 = .ok (.iadd, 1) := by decide +kernel
theorem dL_law__2044 : decode code 2044 = .ok (.iaload, 1) := by decide +kernel
set_option maxRecDepth 100000 in
theorem lwd_1896 : Cond.methodLink "SunnyPansLaw" 220 yX10_line ∈ tbG := tw8 116 rfl rfl
set_option maxRecDepth 100000 in
theorem lwd_1897 : Cond.instanceMethod yX10_line ∈ tbG := tw8 117 rfl rfl
set_option maxRecDepth 100000 in
theorem lwd_1898 : Cond.selects "SunnyPansModel" yX10_line yX10_line ∈ tbG := tw8 118 rfl rfl
set_option maxRecDepth 100000 in
theorem lwd_1899 : Cond.code yX10_line cX10_line 5 (some .int) ∈ tbG := tw8 119 rfl rfl
theorem lcvX10_line : zCV "SunnyPansLaw" 220 "SunnyPansModel" yX10_line cX10_line 5 (some .int) 2 := zCV_of lwd_1896 lwd_1897 lwd_1898 lwd_111 lwd_1899 (by decide +kernel)
theorem dL_law__2045 : decode code 2045 = .ok (.invokevirtual 220, 3) := by decide +kernel
theorem dL_law__2048 : decode code 2048 = .ok (.istore 6, 2) := by decide +kernel
theorem dL_law__2050 : decode code 2050 = .ok (.aload_n 2, 1) := by decide +kernel
theorem dL_law__2051 : decode code 2051 = .ok (.invokevirtual 133, 3) := by decide +kernel
theorem dL_law__2054 : decode code 2054 = .ok (.iload 5, 2) := by decide +kernel
theorem dL_law__2056 : decode code 2056 = .ok (.if_icmp .eq 5, 3) := by decide +kernel
theorem dL_law__2061 : decode code 2061 = .ok (.iload 5, 2) := by decide +kernel
theorem dL_law__2063 : decode code 2063 = .ok (.ifCond .ne 15, 3) := by decide +kernel
theorem dL_law__2078 : decode code 2078 = .ok (.goto 687, 3) := by decide +kernel
theorem dL_law__2066 : decode code 2066 = .ok (.aload_n 3, 1) := by decide +kernel
theorem dL_law__2067 : decode code 2067 = .ok (.iconst 0, 1) := by decide +kernel
theorem dL_law__2068 : decode code 2068 = .ok (.laload, 1) := by decide +kernel
theorem dL_law__2069 : decode code 2069 = .ok (.iload 6, 2) := by decide +kernel
theorem dL_law__2071 : decode code 2071 = .ok (.i2l, 1) := by decide +kernel
theorem dL_law__2072 : decode code 2072 = .ok (.lcmp, 1) := by decide +kernel
theorem dL_law__2073 : decode code 2073 = .ok (.ifCond .eq 5, 3) := by decide +kernel
set_option maxHeartbeats 4000000 in
theorem lc_line {p : Program} {l : Launch} {e : Env} {s : State} {m : MethodId} {below : List Frame} {meth : Method} {c : Code} {G : zG} {b L i cells slots : Nat} {xs : Nat → Int32} {Q : State → Prop} (C : LW9 p l s m meth c G b L xs) (hi : i + 9 ≤ L) (hcell : cells + 4 ≤ room_1.cells ∧ slots + 24 ≤ room_1.slots) (kk : LK9 p l e s m below meth c G b i Q cells slots) : LC9 p l e s m below meth c G b i Q cells slots 2013 := by
  intro Mx Mm v S hXo hMn ok
  obtain ⟨cx, hX, hbl, hL, hl, hN⟩ := C
  have hbA : ¬ (fun q => s.heap.size ≤ q) b := Nat.not_le.mpr hbl
  have hA : ∀ q, s.heap.size ≤ q → (fun q => s.heap.size ≤ q) q := fun _ h => h
  obtain ⟨k, vx, Mx', w, Mm', t, S', hF, hG, hth, hT, hv, hX', hM', ok'⟩ := q_line (xs (i + 1)) (xs (i + 2)) hXo hMn ok
  obtain ⟨v', hk, hv0⟩ := hkT1 (v := v) hT hv
  have hthr : F_X10_thrown Mm' = some (nI t, Mm') := by unfold F_X10_thrown; rw [hth]
  refine l_aload_n cx dL_law__2013 1 rfl ?_
  refine l_arg cx hX hbl hbA (j := 1) (by omega) hL 0 4 rfl rfl li_1 dL_law__2014 dL_law__2015 dL_law__2017 dL_law__2018 dL_law__2019 ?_
  refine l_arg cx hX hbl hbA (j := 2) (by omega) hL 0 4 rfl rfl li_2 dL_law__2020 dL_law__2021 dL_law__2023 dL_law__2024 dL_law__2025 ?_
  refine l_aload_n cx dL_law__2026 3 rfl ?_
  refine l_callWL (na := 4) (As := [.ref (adX s.heap.size 0), .int (xs (i + 1)), .int (xs (i + 2)), .ref (aoL s.heap.size)]) (rest := []) cx hA (cw_line l (adX_in _) Mx v (xs (i + 1)) (xs (i + 2)) hl hF hk) lwd_1296 lwd_1297 lwd_100 lwd_1298 (by decide +kernel) ⟨rfl, rfl, Nat.le_of_ble_eq_true rfl, Nat.le_of_ble_eq_true rfl⟩ rfl rfl ⟨by decide, by decide⟩ hcell (Nat.le_of_ble_eq_true rfl) dL_law__2027 hN ?_
  refine l_istore cx 5 ((5, .int (nI t)) :: lvL b s.heap.size i) dL_law__2030 (by decide) rfl ?_
  refine l_aload_n cx dL_law__2032 3 rfl ?_
  refine l_arg cx hX hbl hbA (j := 1) (by omega) hL 1 5 rfl rfl li_1 dL_law__2033 dL_law__2034 dL_law__2036 dL_law__2037 dL_law__2038 ?_
  refine l_arg cx hX hbl hbA (j := 2) (by omega) hL 1 5 rfl rfl li_2 dL_law__2039 dL_law__2040 dL_law__2042 dL_law__2043 dL_law__2044 ?_
  refine l_callML (As := [.int (xs (i + 1)), .int (xs (i + 2))]) (rest := []) cx hA (c_X10_line l (adM_in _) Mm (xs (i + 1)) (xs (i + 2)) lTM hG) lcvX10_line ⟨rfl, rfl, Nat.le_of_ble_eq_true rfl, Nat.le_of_ble_eq_true rfl⟩ rfl rfl hcell (Nat.le_of_ble_eq_true rfl) dL_law__2045 ?_
  refine l_istore cx 6 ((6, .int w) :: (5, .int (nI t)) :: lvL b s.heap.size i) dL_law__2048 (by decide) rfl ?_
  refine l_aload_n cx dL_law__2050 4 rfl ?_
  refine l_callML (As := []) (rest := []) cx hA (c_X10_thrown l (adM_in _) Mm' lTM hthr) lcvX10_thrown ⟨rfl, rfl, Nat.le_of_ble_eq_true rfl, Nat.le_of_ble_eq_true rfl⟩ rfl rfl hcell (Nat.le_of_ble_eq_true rfl) dL_law__2051 ?_
  refine l_iload cx dL_law__2054 1 rfl ?_
  refine l_icmp_eq cx 2061 dL_law__2056 (by decide) (fun _ => ?_) (fun h => absurd rfl h)
  refine l_iload cx dL_law__2061 1 rfl ?_
  refine l_if_ne cx 2078 dL_law__2063 (by decide) (fun _ => ?_) (fun h0 => ?_)
  · refine l_goto cx 2765 dL_law__2078 (by decide) ?_
    refine l_sub [2, 3, 4, 5, 6] rfl ?_
    exact kk _ _ _ _ hX' hM' ok'
  · refine l_aload_n cx dL_law__2066 5 rfl ?_
    refine l_iconst cx dL_law__2067 ki_0 ?_
    refine l_laldL cx dL_law__2068 ?_
    refine l_iload cx dL_law__2069 0 rfl ?_
    refine l_i2l cx dL_law__2071 ?_
    refine l_lcmp cx dL_law__2072 ?_
    rw [hv0 h0, lgc_self]
    refine l_if_eq cx 2078 dL_law__2073 (by decide) (fun _ => ?_) (fun h => absurd rfl h)
    refine l_goto cx 2765 dL_law__2078 (by decide) ?_
    refine l_sub [2, 3, 4, 5, 6] rfl ?_
    refine l_conv (P' := LPw G s.heap.size Mx' Mm' v') (fun _ h => by rw [hv0 h0]; exact h) ?_
    exact kk _ _ _ _ hX' hM' ok'
