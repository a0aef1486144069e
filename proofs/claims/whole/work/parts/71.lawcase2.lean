set_option maxRecDepth 20000 in
set_option maxHeartbeats 4000000 in
theorem l_34 {Z : hZ} {Q : State → Prop} {cs ss L0 sb i : Nat} {xs : Nat → Int32} {X M : hMem} (hz : cOK Z cL_law RL 4 100 600000 7302250 0 ret) (hX : va_X sb L0 xs (h_s Z) (h_s Z).heap) (hbl : sb < (h_s Z).heap.size) (hL : L0 ≤ 3584) (hi : i + 7 ≤ L0) (hcs : cs ≤ 600000) (hss : ss ≤ 7302250) (R : RR X M) (kk : ∀ X' M' : hMem, RR X' M' → hB Z Q (cW Z X' M') cs ss 2111 [(3, .int (nI i)), (2, .ref (h_b Z + 88 + 0)), (1, .ref (h_b Z + 0)), (0, .ref sb)] []) : hB Z Q (cW Z X M) cs ss 1502 [(3, .int (nI i)), (2, .ref (h_b Z + 88 + 0)), (1, .ref (h_b Z + 0)), (0, .ref sb)] [] := by
  have h1 : vp_in (nI i + 1) L0 := l_in hi hL (k := 1) (by decide)
  have h2 : vp_in (nI i + 2) L0 := l_in hi hL (k := 2) (by decide)
  have h3 : vp_in (nI i + 3) L0 := l_in hi hL (k := 3) (by decide)
  obtain ⟨v, X', M', e1, e2, R'⟩ := eq_fence R (xs (nI i + 1).toNatClampNeg) (xs (nI i + 2).toNatClampNeg) (xs (nI i + 3).toNatClampNeg)
  refine v_aload_n hz.1 dL_law_1502 rfl 2 rfl ?_
  refine v_aload_n hz.1 dL_law_1503 rfl 3 rfl ?_
  refine v_iload_n hz.1 dL_law_1504 rfl 0 rfl ?_
  refine v_iconst hz.1 1 dL_law_1505 rfl ?_
  refine v_iadd hz.1 dL_law_1506 ?_
  refine l_sld hz hX hbl h1 dL_law_1507 ?_
  refine v_aload_n hz.1 dL_law_1508 rfl 3 rfl ?_
  refine v_iload_n hz.1 dL_law_1509 rfl 0 rfl ?_
  refine v_iconst hz.1 2 dL_law_1510 rfl ?_
  refine v_iadd hz.1 dL_law_1511 ?_
  refine l_sld hz hX hbl h2 dL_law_1512 ?_
  refine v_aload_n hz.1 dL_law_1513 rfl 3 rfl ?_
  refine v_iload_n hz.1 dL_law_1514 rfl 0 rfl ?_
  refine v_iconst hz.1 3 dL_law_1515 rfl ?_
  refine v_iadd hz.1 dL_law_1516 ?_
  refine l_sld hz hX hbl h3 dL_law_1517 ?_
  refine l_callX hz mv_L_155 rfl (kX9_fence (n := 92) (xs (nI i + 1).toNatClampNeg) (xs (nI i + 2).toNatClampNeg) (xs (nI i + 3).toNatClampNeg) X (v, X') e1) rfl (av := [.int (xs (nI i + 1).toNatClampNeg), .int (xs (nI i + 2).toNatClampNeg), .int (xs (nI i + 3).toNatClampNeg)]) (rest := []) rfl rfl (Nat.le_of_ble_eq_true rfl) dL_law_1518 hcs hss ?_
  refine v_aload_n hz.1 dL_law_1521 rfl 1 rfl ?_
  refine v_aload_n hz.1 dL_law_1522 rfl 3 rfl ?_
  refine v_iload_n hz.1 dL_law_1523 rfl 0 rfl ?_
  refine v_iconst hz.1 1 dL_law_1524 rfl ?_
  refine v_iadd hz.1 dL_law_1525 ?_
  refine l_sld hz hX hbl h1 dL_law_1526 ?_
  refine v_aload_n hz.1 dL_law_1527 rfl 3 rfl ?_
  refine v_iload_n hz.1 dL_law_1528 rfl 0 rfl ?_
  refine v_iconst hz.1 2 dL_law_1529 rfl ?_
  refine v_iadd hz.1 dL_law_1530 ?_
  refine l_sld hz hX hbl h2 dL_law_1531 ?_
  refine v_aload_n hz.1 dL_law_1532 rfl 3 rfl ?_
  refine v_iload_n hz.1 dL_law_1533 rfl 0 rfl ?_
  refine v_iconst hz.1 3 dL_law_1534 rfl ?_
  refine v_iadd hz.1 dL_law_1535 ?_
  refine l_sld hz hX hbl h3 dL_law_1536 ?_
  refine l_callM hz mv_L_158 rfl (kX10_fence (n := 92) (xs (nI i + 1).toNatClampNeg) (xs (nI i + 2).toNatClampNeg) (xs (nI i + 3).toNatClampNeg) M (v, M') e2) rfl (av := [.int (xs (nI i + 1).toNatClampNeg), .int (xs (nI i + 2).toNatClampNeg), .int (xs (nI i + 3).toNatClampNeg)]) (rest := [.int v]) rfl rfl (Nat.le_of_ble_eq_true rfl) dL_law_1537 hcs hss ?_
  exact v_icmp_eq hz.1 dL_law_1540 (fun _ => kk X' M' R') (fun h => absurd rfl h)
set_option maxRecDepth 20000 in
set_option maxHeartbeats 4000000 in
theorem l_35 {Z : hZ} {Q : State → Prop} {cs ss L0 sb i : Nat} {xs : Nat → Int32} {X M : hMem} (hz : cOK Z cL_law RL 4 100 600000 7302250 0 ret) (hX : va_X sb L0 xs (h_s Z) (h_s Z).heap) (hbl : sb < (h_s Z).heap.size) (hL : L0 ≤ 3584) (hi : i + 7 ≤ L0) (hcs : cs ≤ 600000) (hss : ss ≤ 7302250) (R : RR X M) (kk : ∀ X' M' : hMem, RR X' M' → hB Z Q (cW Z X' M') cs ss 2111 [(3, .int (nI i)), (2, .ref (h_b Z + 88 + 0)), (1, .ref (h_b Z + 0)), (0, .ref sb)] []) : hB Z Q (cW Z X M) cs ss 1545 [(3, .int (nI i)), (2, .ref (h_b Z + 88 + 0)), (1, .ref (h_b Z + 0)), (0, .ref sb)] [] := by
  have h1 : vp_in (nI i + 1) L0 := l_in hi hL (k := 1) (by decide)
  have h2 : vp_in (nI i + 2) L0 := l_in hi hL (k := 2) (by decide)
  obtain ⟨v, X', M', e1, e2, R'⟩ := eq_judge R (xs (nI i + 1).toNatClampNeg) (xs (nI i + 2).toNatClampNeg)
  refine v_aload_n hz.1 dL_law_1545 rfl 2 rfl ?_
  refine v_aload_n hz.1 dL_law_1546 rfl 3 rfl ?_
  refine v_iload_n hz.1 dL_law_1547 rfl 0 rfl ?_
  refine v_iconst hz.1 1 dL_law_1548 rfl ?_
  refine v_iadd hz.1 dL_law_1549 ?_
  refine l_sld hz hX hbl h1 dL_law_1550 ?_
  refine v_aload_n hz.1 dL_law_1551 rfl 3 rfl ?_
  refine v_iload_n hz.1 dL_law_1552 rfl 0 rfl ?_
  refine v_iconst hz.1 2 dL_law_1553 rfl ?_
  refine v_iadd hz.1 dL_law_1554 ?_
  refine l_sld hz hX hbl h2 dL_law_1555 ?_
  refine l_callX hz mv_L_159 rfl (kX9_judge (n := 94) (xs (nI i + 1).toNatClampNeg) (xs (nI i + 2).toNatClampNeg) X (v, X') e1) rfl (av := [.int (xs (nI i + 1).toNatClampNeg), .int (xs (nI i + 2).toNatClampNeg)]) (rest := []) rfl rfl (Nat.le_of_ble_eq_true rfl) dL_law_1556 hcs hss ?_
  refine v_aload_n hz.1 dL_law_1559 rfl 1 rfl ?_
  refine v_aload_n hz.1 dL_law_1560 rfl 3 rfl ?_
  refine v_iload_n hz.1 dL_law_1561 rfl 0 rfl ?_
  refine v_iconst hz.1 1 dL_law_1562 rfl ?_
  refine v_iadd hz.1 dL_law_1563 ?_
  refine l_sld hz hX hbl h1 dL_law_1564 ?_
  refine v_aload_n hz.1 dL_law_1565 rfl 3 rfl ?_
  refine v_iload_n hz.1 dL_law_1566 rfl 0 rfl ?_
  refine v_iconst hz.1 2 dL_law_1567 rfl ?_
  refine v_iadd hz.1 dL_law_1568 ?_
  refine l_sld hz hX hbl h2 dL_law_1569 ?_
  refine l_callM hz mv_L_162 rfl (kX10_judge (n := 93) (xs (nI i + 1).toNatClampNeg) (xs (nI i + 2).toNatClampNeg) M (v, M') e2) rfl (av := [.int (xs (nI i + 1).toNatClampNeg), .int (xs (nI i + 2).toNatClampNeg)]) (rest := [.int v]) rfl rfl (Nat.le_of_ble_eq_true rfl) dL_law_1570 hcs hss ?_
  exact v_icmp_eq hz.1 dL_law_1573 (fun _ => kk X' M' R') (fun h => absurd rfl h)
set_option maxRecDepth 20000 in
set_option maxHeartbeats 4000000 in
theorem l_36 {Z : hZ} {Q : State → Prop} {cs ss L0 sb i : Nat} {xs : Nat → Int32} {X M : hMem} (hz : cOK Z cL_law RL 4 100 600000 7302250 0 ret) (hX : va_X sb L0 xs (h_s Z) (h_s Z).heap) (hbl : sb < (h_s Z).heap.size) (hL : L0 ≤ 3584) (hi : i + 7 ≤ L0) (hcs : cs ≤ 600000) (hss : ss ≤ 7302250) (R : RR X M) (kk : ∀ X' M' : hMem, RR X' M' → hB Z Q (cW Z X' M') cs ss 2111 [(3, .int (nI i)), (2, .ref (h_b Z + 88 + 0)), (1, .ref (h_b Z + 0)), (0, .ref sb)] []) : hB Z Q (cW Z X M) cs ss 1578 [(3, .int (nI i)), (2, .ref (h_b Z + 88 + 0)), (1, .ref (h_b Z + 0)), (0, .ref sb)] [] := by
  have h1 : vp_in (nI i + 1) L0 := l_in hi hL (k := 1) (by decide)
  obtain ⟨v, X', M', e1, e2, R'⟩ := eq_whose R (xs (nI i + 1).toNatClampNeg)
  refine v_aload_n hz.1 dL_law_1578 rfl 2 rfl ?_
  refine v_aload_n hz.1 dL_law_1579 rfl 3 rfl ?_
  refine v_iload_n hz.1 dL_law_1580 rfl 0 rfl ?_
  refine v_iconst hz.1 1 dL_law_1581 rfl ?_
  refine v_iadd hz.1 dL_law_1582 ?_
  refine l_sld hz hX hbl h1 dL_law_1583 ?_
  refine l_callX hz mv_L_163 rfl (kX9_whose (n := 94) (xs (nI i + 1).toNatClampNeg) X (v, X') e1) rfl (av := [.int (xs (nI i + 1).toNatClampNeg)]) (rest := []) rfl rfl (Nat.le_of_ble_eq_true rfl) dL_law_1584 hcs hss ?_
  refine v_aload_n hz.1 dL_law_1587 rfl 1 rfl ?_
  refine v_aload_n hz.1 dL_law_1588 rfl 3 rfl ?_
  refine v_iload_n hz.1 dL_law_1589 rfl 0 rfl ?_
  refine v_iconst hz.1 1 dL_law_1590 rfl ?_
  refine v_iadd hz.1 dL_law_1591 ?_
  refine l_sld hz hX hbl h1 dL_law_1592 ?_
  refine l_callM hz mv_L_166 rfl (kX10_whose (n := 93) (xs (nI i + 1).toNatClampNeg) M (v, M') e2) rfl (av := [.int (xs (nI i + 1).toNatClampNeg)]) (rest := [.int v]) rfl rfl (Nat.le_of_ble_eq_true rfl) dL_law_1593 hcs hss ?_
  exact v_icmp_eq hz.1 dL_law_1596 (fun _ => kk X' M' R') (fun h => absurd rfl h)
set_option maxRecDepth 20000 in
set_option maxHeartbeats 4000000 in
theorem l_37 {Z : hZ} {Q : State → Prop} {cs ss L0 sb i : Nat} {xs : Nat → Int32} {X M : hMem} (hz : cOK Z cL_law RL 4 100 600000 7302250 0 ret) (hX : va_X sb L0 xs (h_s Z) (h_s Z).heap) (hbl : sb < (h_s Z).heap.size) (hL : L0 ≤ 3584) (hi : i + 7 ≤ L0) (hcs : cs ≤ 600000) (hss : ss ≤ 7302250) (R : RR X M) (kk : ∀ X' M' : hMem, RR X' M' → hB Z Q (cW Z X' M') cs ss 2111 [(3, .int (nI i)), (2, .ref (h_b Z + 88 + 0)), (1, .ref (h_b Z + 0)), (0, .ref sb)] []) : hB Z Q (cW Z X M) cs ss 1601 [(3, .int (nI i)), (2, .ref (h_b Z + 88 + 0)), (1, .ref (h_b Z + 0)), (0, .ref sb)] [] := by
  have h1 : vp_in (nI i + 1) L0 := l_in hi hL (k := 1) (by decide)
  have h2 : vp_in (nI i + 2) L0 := l_in hi hL (k := 2) (by decide)
  obtain ⟨v, X', M', e1, e2, R'⟩ := eq_lay R (xs (nI i + 1).toNatClampNeg) (xs (nI i + 2).toNatClampNeg)
  refine v_aload_n hz.1 dL_law_1601 rfl 2 rfl ?_
  refine v_aload_n hz.1 dL_law_1602 rfl 3 rfl ?_
  refine v_iload_n hz.1 dL_law_1603 rfl 0 rfl ?_
  refine v_iconst hz.1 1 dL_law_1604 rfl ?_
  refine v_iadd hz.1 dL_law_1605 ?_
  refine l_sld hz hX hbl h1 dL_law_1606 ?_
  refine v_aload_n hz.1 dL_law_1607 rfl 3 rfl ?_
  refine v_iload_n hz.1 dL_law_1608 rfl 0 rfl ?_
  refine v_iconst hz.1 2 dL_law_1609 rfl ?_
  refine v_iadd hz.1 dL_law_1610 ?_
  refine l_sld hz hX hbl h2 dL_law_1611 ?_
  refine l_callX hz mv_L_167 rfl (kX9_lay (n := 94) (xs (nI i + 1).toNatClampNeg) (xs (nI i + 2).toNatClampNeg) X (v, X') e1) rfl (av := [.int (xs (nI i + 1).toNatClampNeg), .int (xs (nI i + 2).toNatClampNeg)]) (rest := []) rfl rfl (Nat.le_of_ble_eq_true rfl) dL_law_1612 hcs hss ?_
  refine v_aload_n hz.1 dL_law_1615 rfl 1 rfl ?_
  refine v_aload_n hz.1 dL_law_1616 rfl 3 rfl ?_
  refine v_iload_n hz.1 dL_law_1617 rfl 0 rfl ?_
  refine v_iconst hz.1 1 dL_law_1618 rfl ?_
  refine v_iadd hz.1 dL_law_1619 ?_
  refine l_sld hz hX hbl h1 dL_law_1620 ?_
  refine v_aload_n hz.1 dL_law_1621 rfl 3 rfl ?_
  refine v_iload_n hz.1 dL_law_1622 rfl 0 rfl ?_
  refine v_iconst hz.1 2 dL_law_1623 rfl ?_
  refine v_iadd hz.1 dL_law_1624 ?_
  refine l_sld hz hX hbl h2 dL_law_1625 ?_
  refine l_callM hz mv_L_170 rfl (kX10_lay (n := 94) (xs (nI i + 1).toNatClampNeg) (xs (nI i + 2).toNatClampNeg) M (v, M') e2) rfl (av := [.int (xs (nI i + 1).toNatClampNeg), .int (xs (nI i + 2).toNatClampNeg)]) (rest := [.int v]) rfl rfl (Nat.le_of_ble_eq_true rfl) dL_law_1626 hcs hss ?_
  exact v_icmp_eq hz.1 dL_law_1629 (fun _ => kk X' M' R') (fun h => absurd rfl h)
set_option maxRecDepth 20000 in
set_option maxHeartbeats 4000000 in
theorem l_38 {Z : hZ} {Q : State → Prop} {cs ss L0 sb i : Nat} {xs : Nat → Int32} {X M : hMem} (hz : cOK Z cL_law RL 4 100 600000 7302250 0 ret) (hX : va_X sb L0 xs (h_s Z) (h_s Z).heap) (hbl : sb < (h_s Z).heap.size) (hL : L0 ≤ 3584) (hi : i + 7 ≤ L0) (hcs : cs ≤ 600000) (hss : ss ≤ 7302250) (R : RR X M) (kk : ∀ X' M' : hMem, RR X' M' → hB Z Q (cW Z X' M') cs ss 2111 [(3, .int (nI i)), (2, .ref (h_b Z + 88 + 0)), (1, .ref (h_b Z + 0)), (0, .ref sb)] []) : hB Z Q (cW Z X M) cs ss 1634 [(3, .int (nI i)), (2, .ref (h_b Z + 88 + 0)), (1, .ref (h_b Z + 0)), (0, .ref sb)] [] := by
  have h1 : vp_in (nI i + 1) L0 := l_in hi hL (k := 1) (by decide)
  have h2 : vp_in (nI i + 2) L0 := l_in hi hL (k := 2) (by decide)
  have h3 : vp_in (nI i + 3) L0 := l_in hi hL (k := 3) (by decide)
  obtain ⟨v, X', M', e1, e2, R'⟩ := eq_kinds R (xs (nI i + 1).toNatClampNeg) (xs (nI i + 2).toNatClampNeg) (xs (nI i + 3).toNatClampNeg)
  refine v_aload_n hz.1 dL_law_1634 rfl 2 rfl ?_
  refine v_aload_n hz.1 dL_law_1635 rfl 3 rfl ?_
  refine v_iload_n hz.1 dL_law_1636 rfl 0 rfl ?_
  refine v_iconst hz.1 1 dL_law_1637 rfl ?_
  refine v_iadd hz.1 dL_law_1638 ?_
  refine l_sld hz hX hbl h1 dL_law_1639 ?_
  refine v_aload_n hz.1 dL_law_1640 rfl 3 rfl ?_
  refine v_iload_n hz.1 dL_law_1641 rfl 0 rfl ?_
  refine v_iconst hz.1 2 dL_law_1642 rfl ?_
  refine v_iadd hz.1 dL_law_1643 ?_
  refine l_sld hz hX hbl h2 dL_law_1644 ?_
  refine v_aload_n hz.1 dL_law_1645 rfl 3 rfl ?_
  refine v_iload_n hz.1 dL_law_1646 rfl 0 rfl ?_
  refine v_iconst hz.1 3 dL_law_1647 rfl ?_
  refine v_iadd hz.1 dL_law_1648 ?_
  refine l_sld hz hX hbl h3 dL_law_1649 ?_
  refine l_callX hz mv_L_171 rfl (kX9_kinds (n := 94) (xs (nI i + 1).toNatClampNeg) (xs (nI i + 2).toNatClampNeg) (xs (nI i + 3).toNatClampNeg) X (v, X') e1) rfl (av := [.int (xs (nI i + 1).toNatClampNeg), .int (xs (nI i + 2).toNatClampNeg), .int (xs (nI i + 3).toNatClampNeg)]) (rest := []) rfl rfl (Nat.le_of_ble_eq_true rfl) dL_law_1650 hcs hss ?_
  refine v_aload_n hz.1 dL_law_1653 rfl 1 rfl ?_
  refine v_aload_n hz.1 dL_law_1654 rfl 3 rfl ?_
  refine v_iload_n hz.1 dL_law_1655 rfl 0 rfl ?_
  refine v_iconst hz.1 1 dL_law_1656 rfl ?_
  refine v_iadd hz.1 dL_law_1657 ?_
  refine l_sld hz hX hbl h1 dL_law_1658 ?_
  refine v_aload_n hz.1 dL_law_1659 rfl 3 rfl ?_
  refine v_iload_n hz.1 dL_law_1660 rfl 0 rfl ?_
  refine v_iconst hz.1 2 dL_law_1661 rfl ?_
  refine v_iadd hz.1 dL_law_1662 ?_
  refine l_sld hz hX hbl h2 dL_law_1663 ?_
  refine v_aload_n hz.1 dL_law_1664 rfl 3 rfl ?_
  refine v_iload_n hz.1 dL_law_1665 rfl 0 rfl ?_
  refine v_iconst hz.1 3 dL_law_1666 rfl ?_
  refine v_iadd hz.1 dL_law_1667 ?_
  refine l_sld hz hX hbl h3 dL_law_1668 ?_
  refine l_callM hz mv_L_174 rfl (kX10_kinds (n := 93) (xs (nI i + 1).toNatClampNeg) (xs (nI i + 2).toNatClampNeg) (xs (nI i + 3).toNatClampNeg) M (v, M') e2) rfl (av := [.int (xs (nI i + 1).toNatClampNeg), .int (xs (nI i + 2).toNatClampNeg), .int (xs (nI i + 3).toNatClampNeg)]) (rest := [.int v]) rfl rfl (Nat.le_of_ble_eq_true rfl) dL_law_1669 hcs hss ?_
  exact v_icmp_eq hz.1 dL_law_1672 (fun _ => kk X' M' R') (fun h => absurd rfl h)
set_option maxRecDepth 20000 in
set_option maxHeartbeats 4000000 in
theorem l_39 {Z : hZ} {Q : State → Prop} {cs ss L0 sb i : Nat} {xs : Nat → Int32} {X M : hMem} (hz : cOK Z cL_law RL 4 100 600000 7302250 0 ret) (hX : va_X sb L0 xs (h_s Z) (h_s Z).heap) (hbl : sb < (h_s Z).heap.size) (hL : L0 ≤ 3584) (hi : i + 7 ≤ L0) (hcs : cs ≤ 600000) (hss : ss ≤ 7302250) (R : RR X M) (kk : ∀ X' M' : hMem, RR X' M' → hB Z Q (cW Z X' M') cs ss 2111 [(3, .int (nI i)), (2, .ref (h_b Z + 88 + 0)), (1, .ref (h_b Z + 0)), (0, .ref sb)] []) : hB Z Q (cW Z X M) cs ss 1677 [(3, .int (nI i)), (2, .ref (h_b Z + 88 + 0)), (1, .ref (h_b Z + 0)), (0, .ref sb)] [] := by
  have h1 : vp_in (nI i + 1) L0 := l_in hi hL (k := 1) (by decide)
  have h2 : vp_in (nI i + 2) L0 := l_in hi hL (k := 2) (by decide)
  obtain ⟨v, X', M', e1, e2, R'⟩ := eq_laws R (xs (nI i + 1).toNatClampNeg) (xs (nI i + 2).toNatClampNeg)
  refine v_aload_n hz.1 dL_law_1677 rfl 2 rfl ?_
  refine v_aload_n hz.1 dL_law_1678 rfl 3 rfl ?_
  refine v_iload_n hz.1 dL_law_1679 rfl 0 rfl ?_
  refine v_iconst hz.1 1 dL_law_1680 rfl ?_
  refine v_iadd hz.1 dL_law_1681 ?_
  refine l_sld hz hX hbl h1 dL_law_1682 ?_
  refine v_aload_n hz.1 dL_law_1683 rfl 3 rfl ?_
  refine v_iload_n hz.1 dL_law_1684 rfl 0 rfl ?_
  refine v_iconst hz.1 2 dL_law_1685 rfl ?_
  refine v_iadd hz.1 dL_law_1686 ?_
  refine l_sld hz hX hbl h2 dL_law_1687 ?_
  refine l_callX hz mv_L_175 rfl (kX9_laws (n := 94) (xs (nI i + 1).toNatClampNeg) (xs (nI i + 2).toNatClampNeg) X (v, X') e1) rfl (av := [.int (xs (nI i + 1).toNatClampNeg), .int (xs (nI i + 2).toNatClampNeg)]) (rest := []) rfl rfl (Nat.le_of_ble_eq_true rfl) dL_law_1688 hcs hss ?_
  refine v_aload_n hz.1 dL_law_1691 rfl 1 rfl ?_
  refine v_aload_n hz.1 dL_law_1692 rfl 3 rfl ?_
  refine v_iload_n hz.1 dL_law_1693 rfl 0 rfl ?_
  refine v_iconst hz.1 1 dL_law_1694 rfl ?_
  refine v_iadd hz.1 dL_law_1695 ?_
  refine l_sld hz hX hbl h1 dL_law_1696 ?_
  refine v_aload_n hz.1 dL_law_1697 rfl 3 rfl ?_
  refine v_iload_n hz.1 dL_law_1698 rfl 0 rfl ?_
  refine v_iconst hz.1 2 dL_law_1699 rfl ?_
  refine v_iadd hz.1 dL_law_1700 ?_
  refine l_sld hz hX hbl h2 dL_law_1701 ?_
  refine l_callM hz mv_L_178 rfl (kX10_laws (n := 93) (xs (nI i + 1).toNatClampNeg) (xs (nI i + 2).toNatClampNeg) M (v, M') e2) rfl (av := [.int (xs (nI i + 1).toNatClampNeg), .int (xs (nI i + 2).toNatClampNeg)]) (rest := [.int v]) rfl rfl (Nat.le_of_ble_eq_true rfl) dL_law_1702 hcs hss ?_
  exact v_icmp_eq hz.1 dL_law_1705 (fun _ => kk X' M' R') (fun h => absurd rfl h)
set_option maxRecDepth 20000 in
set_option maxHeartbeats 4000000 in
theorem l_40 {Z : hZ} {Q : State → Prop} {cs ss L0 sb i : Nat} {xs : Nat → Int32} {X M : hMem} (hz : cOK Z cL_law RL 4 100 600000 7302250 0 ret) (hX : va_X sb L0 xs (h_s Z) (h_s Z).heap) (hbl : sb < (h_s Z).heap.size) (hL : L0 ≤ 3584) (hi : i + 7 ≤ L0) (hcs : cs ≤ 600000) (hss : ss ≤ 7302250) (R : RR X M) (kk : ∀ X' M' : hMem, RR X' M' → hB Z Q (cW Z X' M') cs ss 2111 [(3, .int (nI i)), (2, .ref (h_b Z + 88 + 0)), (1, .ref (h_b Z + 0)), (0, .ref sb)] []) : hB Z Q (cW Z X M) cs ss 1710 [(3, .int (nI i)), (2, .ref (h_b Z + 88 + 0)), (1, .ref (h_b Z + 0)), (0, .ref sb)] [] := by
  have h1 : vp_in (nI i + 1) L0 := l_in hi hL (k := 1) (by decide)
  have h2 : vp_in (nI i + 2) L0 := l_in hi hL (k := 2) (by decide)
  have h3 : vp_in (nI i + 3) L0 := l_in hi hL (k := 3) (by decide)
  obtain ⟨v, X', M', e1, e2, R'⟩ := eq_film R (xs (nI i + 1).toNatClampNeg) (xs (nI i + 2).toNatClampNeg) (xs (nI i + 3).toNatClampNeg)
  refine v_aload_n hz.1 dL_law_1710 rfl 2 rfl ?_
  refine v_aload_n hz.1 dL_law_1711 rfl 3 rfl ?_
  refine v_iload_n hz.1 dL_law_1712 rfl 0 rfl ?_
  refine v_iconst hz.1 1 dL_law_1713 rfl ?_
  refine v_iadd hz.1 dL_law_1714 ?_
  refine l_sld hz hX hbl h1 dL_law_1715 ?_
  refine v_aload_n hz.1 dL_law_1716 rfl 3 rfl ?_
  refine v_iload_n hz.1 dL_law_1717 rfl 0 rfl ?_
  refine v_iconst hz.1 2 dL_law_1718 rfl ?_
  refine v_iadd hz.1 dL_law_1719 ?_
  refine l_sld hz hX hbl h2 dL_law_1720 ?_
  refine v_aload_n hz.1 dL_law_1721 rfl 3 rfl ?_
  refine v_iload_n hz.1 dL_law_1722 rfl 0 rfl ?_
  refine v_iconst hz.1 3 dL_law_1723 rfl ?_
  refine v_iadd hz.1 dL_law_1724 ?_
  refine l_sld hz hX hbl h3 dL_law_1725 ?_
  refine l_callX hz mv_L_179 rfl (kX9_film (n := 94) (xs (nI i + 1).toNatClampNeg) (xs (nI i + 2).toNatClampNeg) (xs (nI i + 3).toNatClampNeg) X (v, X') e1) rfl (av := [.int (xs (nI i + 1).toNatClampNeg), .int (xs (nI i + 2).toNatClampNeg), .int (xs (nI i + 3).toNatClampNeg)]) (rest := []) rfl rfl (Nat.le_of_ble_eq_true rfl) dL_law_1726 hcs hss ?_
  refine v_aload_n hz.1 dL_law_1729 rfl 1 rfl ?_
  refine v_aload_n hz.1 dL_law_1730 rfl 3 rfl ?_
  refine v_iload_n hz.1 dL_law_1731 rfl 0 rfl ?_
  refine v_iconst hz.1 1 dL_law_1732 rfl ?_
  refine v_iadd hz.1 dL_law_1733 ?_
  refine l_sld hz hX hbl h1 dL_law_1734 ?_
  refine v_aload_n hz.1 dL_law_1735 rfl 3 rfl ?_
  refine v_iload_n hz.1 dL_law_1736 rfl 0 rfl ?_
  refine v_iconst hz.1 2 dL_law_1737 rfl ?_
  refine v_iadd hz.1 dL_law_1738 ?_
  refine l_sld hz hX hbl h2 dL_law_1739 ?_
  refine v_aload_n hz.1 dL_law_1740 rfl 3 rfl ?_
  refine v_iload_n hz.1 dL_law_1741 rfl 0 rfl ?_
  refine v_iconst hz.1 3 dL_law_1742 rfl ?_
  refine v_iadd hz.1 dL_law_1743 ?_
  refine l_sld hz hX hbl h3 dL_law_1744 ?_
  refine l_callM hz mv_L_182 rfl (kX10_film (n := 95) (xs (nI i + 1).toNatClampNeg) (xs (nI i + 2).toNatClampNeg) (xs (nI i + 3).toNatClampNeg) M (v, M') e2) rfl (av := [.int (xs (nI i + 1).toNatClampNeg), .int (xs (nI i + 2).toNatClampNeg), .int (xs (nI i + 3).toNatClampNeg)]) (rest := [.int v]) rfl rfl (Nat.le_of_ble_eq_true rfl) dL_law_1745 hcs hss ?_
  exact v_icmp_eq hz.1 dL_law_1748 (fun _ => kk X' M' R') (fun h => absurd rfl h)
set_option maxRecDepth 20000 in
set_option maxHeartbeats 4000000 in
theorem l_41 {Z : hZ} {Q : State → Prop} {cs ss L0 sb i : Nat} {xs : Nat → Int32} {X M : hMem} (hz : cOK Z cL_law RL 4 100 600000 7302250 0 ret) (hX : va_X sb L0 xs (h_s Z) (h_s Z).heap) (hbl : sb < (h_s Z).heap.size) (hL : L0 ≤ 3584) (hi : i + 7 ≤ L0) (hcs : cs ≤ 600000) (hss : ss ≤ 7302250) (R : RR X M) (kk : ∀ X' M' : hMem, RR X' M' → hB Z Q (cW Z X' M') cs ss 2111 [(3, .int (nI i)), (2, .ref (h_b Z + 88 + 0)), (1, .ref (h_b Z + 0)), (0, .ref sb)] []) : hB Z Q (cW Z X M) cs ss 1753 [(3, .int (nI i)), (2, .ref (h_b Z + 88 + 0)), (1, .ref (h_b Z + 0)), (0, .ref sb)] [] := by
  have h1 : vp_in (nI i + 1) L0 := l_in hi hL (k := 1) (by decide)
  have h2 : vp_in (nI i + 2) L0 := l_in hi hL (k := 2) (by decide)
  have h3 : vp_in (nI i + 3) L0 := l_in hi hL (k := 3) (by decide)
  obtain ⟨v, X', M', e1, e2, R'⟩ := eq_drawn R (xs (nI i + 1).toNatClampNeg) (xs (nI i + 2).toNatClampNeg) (xs (nI i + 3).toNatClampNeg)
  refine v_aload_n hz.1 dL_law_1753 rfl 2 rfl ?_
  refine v_aload_n hz.1 dL_law_1754 rfl 3 rfl ?_
  refine v_iload_n hz.1 dL_law_1755 rfl 0 rfl ?_
  refine v_iconst hz.1 1 dL_law_1756 rfl ?_
  refine v_iadd hz.1 dL_law_1757 ?_
  refine l_sld hz hX hbl h1 dL_law_1758 ?_
  refine v_aload_n hz.1 dL_law_1759 rfl 3 rfl ?_
  refine v_iload_n hz.1 dL_law_1760 rfl 0 rfl ?_
  refine v_iconst hz.1 2 dL_law_1761 rfl ?_
  refine v_iadd hz.1 dL_law_1762 ?_
  refine l_sld hz hX hbl h2 dL_law_1763 ?_
  refine v_aload_n hz.1 dL_law_1764 rfl 3 rfl ?_
  refine v_iload_n hz.1 dL_law_1765 rfl 0 rfl ?_
  refine v_iconst hz.1 3 dL_law_1766 rfl ?_
  refine v_iadd hz.1 dL_law_1767 ?_
  refine l_sld hz hX hbl h3 dL_law_1768 ?_
  refine l_callX hz mv_L_183 rfl (kX9_drawn (n := 94) (xs (nI i + 1).toNatClampNeg) (xs (nI i + 2).toNatClampNeg) (xs (nI i + 3).toNatClampNeg) X (v, X') e1) rfl (av := [.int (xs (nI i + 1).toNatClampNeg), .int (xs (nI i + 2).toNatClampNeg), .int (xs (nI i + 3).toNatClampNeg)]) (rest := []) rfl rfl (Nat.le_of_ble_eq_true rfl) dL_law_1769 hcs hss ?_
  refine v_aload_n hz.1 dL_law_1772 rfl 1 rfl ?_
  refine v_aload_n hz.1 dL_law_1773 rfl 3 rfl ?_
  refine v_iload_n hz.1 dL_law_1774 rfl 0 rfl ?_
  refine v_iconst hz.1 1 dL_law_1775 rfl ?_
  refine v_iadd hz.1 dL_law_1776 ?_
  refine l_sld hz hX hbl h1 dL_law_1777 ?_
  refine v_aload_n hz.1 dL_law_1778 rfl 3 rfl ?_
  refine v_iload_n hz.1 dL_law_1779 rfl 0 rfl ?_
  refine v_iconst hz.1 2 dL_law_1780 rfl ?_
  refine v_iadd hz.1 dL_law_1781 ?_
  refine l_sld hz hX hbl h2 dL_law_1782 ?_
  refine v_aload_n hz.1 dL_law_1783 rfl 3 rfl ?_
  refine v_iload_n hz.1 dL_law_1784 rfl 0 rfl ?_
  refine v_iconst hz.1 3 dL_law_1785 rfl ?_
  refine v_iadd hz.1 dL_law_1786 ?_
  refine l_sld hz hX hbl h3 dL_law_1787 ?_
  refine l_callM hz mv_L_186 rfl (kX10_drawn (n := 93) (xs (nI i + 1).toNatClampNeg) (xs (nI i + 2).toNatClampNeg) (xs (nI i + 3).toNatClampNeg) M (v, M') e2) rfl (av := [.int (xs (nI i + 1).toNatClampNeg), .int (xs (nI i + 2).toNatClampNeg), .int (xs (nI i + 3).toNatClampNeg)]) (rest := [.int v]) rfl rfl (Nat.le_of_ble_eq_true rfl) dL_law_1788 hcs hss ?_
  exact v_icmp_eq hz.1 dL_law_1791 (fun _ => kk X' M' R') (fun h => absurd rfl h)
set_option maxRecDepth 20000 in
set_option maxHeartbeats 4000000 in
theorem l_42 {Z : hZ} {Q : State → Prop} {cs ss L0 sb i : Nat} {xs : Nat → Int32} {X M : hMem} (hz : cOK Z cL_law RL 4 100 600000 7302250 0 ret) (hX : va_X sb L0 xs (h_s Z) (h_s Z).heap) (hbl : sb < (h_s Z).heap.size) (hL : L0 ≤ 3584) (hi : i + 7 ≤ L0) (hcs : cs ≤ 600000) (hss : ss ≤ 7302250) (R : RR X M) (kk : ∀ X' M' : hMem, RR X' M' → hB Z Q (cW Z X' M') cs ss 2111 [(3, .int (nI i)), (2, .ref (h_b Z + 88 + 0)), (1, .ref (h_b Z + 0)), (0, .ref sb)] []) : hB Z Q (cW Z X M) cs ss 1796 [(3, .int (nI i)), (2, .ref (h_b Z + 88 + 0)), (1, .ref (h_b Z + 0)), (0, .ref sb)] [] := by
  have h1 : vp_in (nI i + 1) L0 := l_in hi hL (k := 1) (by decide)
  have h2 : vp_in (nI i + 2) L0 := l_in hi hL (k := 2) (by decide)
  have h3 : vp_in (nI i + 3) L0 := l_in hi hL (k := 3) (by decide)
  have h4 : vp_in (nI i + 4) L0 := l_in hi hL (k := 4) (by decide)
  obtain ⟨v, X', M', e1, e2, R'⟩ := eq_odds R (xs (nI i + 1).toNatClampNeg) (xs (nI i + 2).toNatClampNeg) (xs (nI i + 3).toNatClampNeg) (xs (nI i + 4).toNatClampNeg)
  refine v_aload_n hz.1 dL_law_1796 rfl 2 rfl ?_
  refine v_aload_n hz.1 dL_law_1797 rfl 3 rfl ?_
  refine v_iload_n hz.1 dL_law_1798 rfl 0 rfl ?_
  refine v_iconst hz.1 1 dL_law_1799 rfl ?_
  refine v_iadd hz.1 dL_law_1800 ?_
  refine l_sld hz hX hbl h1 dL_law_1801 ?_
  refine v_aload_n hz.1 dL_law_1802 rfl 3 rfl ?_
  refine v_iload_n hz.1 dL_law_1803 rfl 0 rfl ?_
  refine v_iconst hz.1 2 dL_law_1804 rfl ?_
  refine v_iadd hz.1 dL_law_1805 ?_
  refine l_sld hz hX hbl h2 dL_law_1806 ?_
  refine v_aload_n hz.1 dL_law_1807 rfl 3 rfl ?_
  refine v_iload_n hz.1 dL_law_1808 rfl 0 rfl ?_
  refine v_iconst hz.1 3 dL_law_1809 rfl ?_
  refine v_iadd hz.1 dL_law_1810 ?_
  refine l_sld hz hX hbl h3 dL_law_1811 ?_
  refine v_aload_n hz.1 dL_law_1812 rfl 3 rfl ?_
  refine v_iload_n hz.1 dL_law_1813 rfl 0 rfl ?_
  refine v_iconst hz.1 4 dL_law_1814 rfl ?_
  refine v_iadd hz.1 dL_law_1815 ?_
  refine l_sld hz hX hbl h4 dL_law_1816 ?_
  refine l_callX hz mv_L_187 rfl (kX9_odds (n := 93) (xs (nI i + 1).toNatClampNeg) (xs (nI i + 2).toNatClampNeg) (xs (nI i + 3).toNatClampNeg) (xs (nI i + 4).toNatClampNeg) X (v, X') e1) rfl (av := [.int (xs (nI i + 1).toNatClampNeg), .int (xs (nI i + 2).toNatClampNeg), .int (xs (nI i + 3).toNatClampNeg), .int (xs (nI i + 4).toNatClampNeg)]) (rest := []) rfl rfl (Nat.le_of_ble_eq_true rfl) dL_law_1817 hcs hss ?_
  refine v_aload_n hz.1 dL_law_1820 rfl 1 rfl ?_
  refine v_aload_n hz.1 dL_law_1821 rfl 3 rfl ?_
  refine v_iload_n hz.1 dL_law_1822 rfl 0 rfl ?_
  refine v_iconst hz.1 1 dL_law_1823 rfl ?_
  refine v_iadd hz.1 dL_law_1824 ?_
  refine l_sld hz hX hbl h1 dL_law_1825 ?_
  refine v_aload_n hz.1 dL_law_1826 rfl 3 rfl ?_
  refine v_iload_n hz.1 dL_law_1827 rfl 0 rfl ?_
  refine v_iconst hz.1 2 dL_law_1828 rfl ?_
  refine v_iadd hz.1 dL_law_1829 ?_
  refine l_sld hz hX hbl h2 dL_law_1830 ?_
  refine v_aload_n hz.1 dL_law_1831 rfl 3 rfl ?_
  refine v_iload_n hz.1 dL_law_1832 rfl 0 rfl ?_
  refine v_iconst hz.1 3 dL_law_1833 rfl ?_
  refine v_iadd hz.1 dL_law_1834 ?_
  refine l_sld hz hX hbl h3 dL_law_1835 ?_
  refine v_aload_n hz.1 dL_law_1836 rfl 3 rfl ?_
  refine v_iload_n hz.1 dL_law_1837 rfl 0 rfl ?_
  refine v_iconst hz.1 4 dL_law_1838 rfl ?_
  refine v_iadd hz.1 dL_law_1839 ?_
  refine l_sld hz hX hbl h4 dL_law_1840 ?_
  refine l_callM hz mv_L_191 rfl (kX10_odds (n := 92) (xs (nI i + 1).toNatClampNeg) (xs (nI i + 2).toNatClampNeg) (xs (nI i + 3).toNatClampNeg) (xs (nI i + 4).toNatClampNeg) M (v, M') e2) rfl (av := [.int (xs (nI i + 1).toNatClampNeg), .int (xs (nI i + 2).toNatClampNeg), .int (xs (nI i + 3).toNatClampNeg), .int (xs (nI i + 4).toNatClampNeg)]) (rest := [.long v]) rfl rfl (Nat.le_of_ble_eq_true rfl) dL_law_1841 hcs hss ?_
  refine v_lcmp hz.1 dL_law_1844 ?_
  exact v_if_eq hz.1 dL_law_1845 (fun _ => kk X' M' R') (fun h => absurd (lg_cmp_self v) h)
set_option maxRecDepth 20000 in
set_option maxHeartbeats 4000000 in
theorem l_43 {Z : hZ} {Q : State → Prop} {cs ss L0 sb i : Nat} {xs : Nat → Int32} {X M : hMem} (hz : cOK Z cL_law RL 4 100 600000 7302250 0 ret) (hX : va_X sb L0 xs (h_s Z) (h_s Z).heap) (hbl : sb < (h_s Z).heap.size) (hL : L0 ≤ 3584) (hi : i + 7 ≤ L0) (hcs : cs ≤ 600000) (hss : ss ≤ 7302250) (R : RR X M) (kk : ∀ X' M' : hMem, RR X' M' → hB Z Q (cW Z X' M') cs ss 2111 [(3, .int (nI i)), (2, .ref (h_b Z + 88 + 0)), (1, .ref (h_b Z + 0)), (0, .ref sb)] []) : hB Z Q (cW Z X M) cs ss 1850 [(3, .int (nI i)), (2, .ref (h_b Z + 88 + 0)), (1, .ref (h_b Z + 0)), (0, .ref sb)] [] := by
  obtain ⟨v, X', M', e1, e2, R'⟩ := eq_image R 
  refine v_aload_n hz.1 dL_law_1850 rfl 2 rfl ?_
  refine l_callX hz mv_L_192 rfl (kX9_image (n := 97)  X (v, X') e1) rfl (av := []) (rest := []) rfl rfl (Nat.le_of_ble_eq_true rfl) dL_law_1851 hcs hss ?_
  refine v_aload_n hz.1 dL_law_1854 rfl 1 rfl ?_
  refine l_callM hz mv_L_195 rfl (kX10_image (n := 99)  M (v, M') e2) rfl (av := []) (rest := [.int v]) rfl rfl (Nat.le_of_ble_eq_true rfl) dL_law_1855 hcs hss ?_
  exact v_icmp_eq hz.1 dL_law_1858 (fun _ => kk X' M' R') (fun h => absurd rfl h)
set_option maxRecDepth 20000 in
set_option maxHeartbeats 4000000 in
theorem l_44 {Z : hZ} {Q : State → Prop} {cs ss L0 sb i : Nat} {xs : Nat → Int32} {X M : hMem} (hz : cOK Z cL_law RL 4 100 600000 7302250 0 ret) (hX : va_X sb L0 xs (h_s Z) (h_s Z).heap) (hbl : sb < (h_s Z).heap.size) (hL : L0 ≤ 3584) (hi : i + 7 ≤ L0) (hcs : cs ≤ 600000) (hss : ss ≤ 7302250) (R : RR X M) (kk : ∀ X' M' : hMem, RR X' M' → hB Z Q (cW Z X' M') cs ss 2111 [(3, .int (nI i)), (2, .ref (h_b Z + 88 + 0)), (1, .ref (h_b Z + 0)), (0, .ref sb)] []) : hB Z Q (cW Z X M) cs ss 1863 [(3, .int (nI i)), (2, .ref (h_b Z + 88 + 0)), (1, .ref (h_b Z + 0)), (0, .ref sb)] [] := by
  obtain ⟨v, X', M', e1, e2, R'⟩ := eq_back R 
  refine v_aload_n hz.1 dL_law_1863 rfl 2 rfl ?_
  refine l_callX hz mv_L_196 rfl (kX9_back (n := 97)  X (v, X') e1) rfl (av := []) (rest := []) rfl rfl (Nat.le_of_ble_eq_true rfl) dL_law_1864 hcs hss ?_
  refine v_aload_n hz.1 dL_law_1867 rfl 1 rfl ?_
  refine l_callM hz mv_L_199 rfl (kX10_back (n := 99)  M (v, M') e2) rfl (av := []) (rest := [.int v]) rfl rfl (Nat.le_of_ble_eq_true rfl) dL_law_1868 hcs hss ?_
  exact v_icmp_eq hz.1 dL_law_1871 (fun _ => kk X' M' R') (fun h => absurd rfl h)
set_option maxRecDepth 20000 in
set_option maxHeartbeats 4000000 in
theorem l_45 {Z : hZ} {Q : State → Prop} {cs ss L0 sb i : Nat} {xs : Nat → Int32} {X M : hMem} (hz : cOK Z cL_law RL 4 100 600000 7302250 0 ret) (hX : va_X sb L0 xs (h_s Z) (h_s Z).heap) (hbl : sb < (h_s Z).heap.size) (hL : L0 ≤ 3584) (hi : i + 7 ≤ L0) (hcs : cs ≤ 600000) (hss : ss ≤ 7302250) (R : RR X M) (kk : ∀ X' M' : hMem, RR X' M' → hB Z Q (cW Z X' M') cs ss 2111 [(3, .int (nI i)), (2, .ref (h_b Z + 88 + 0)), (1, .ref (h_b Z + 0)), (0, .ref sb)] []) : hB Z Q (cW Z X M) cs ss 1876 [(3, .int (nI i)), (2, .ref (h_b Z + 88 + 0)), (1, .ref (h_b Z + 0)), (0, .ref sb)] [] := by
  have h1 : vp_in (nI i + 1) L0 := l_in hi hL (k := 1) (by decide)
  have h2 : vp_in (nI i + 2) L0 := l_in hi hL (k := 2) (by decide)
  have h3 : vp_in (nI i + 3) L0 := l_in hi hL (k := 3) (by decide)
  obtain ⟨v, X', M', e1, e2, R'⟩ := eq_sheet R (xs (nI i + 1).toNatClampNeg) (xs (nI i + 2).toNatClampNeg) (xs (nI i + 3).toNatClampNeg)
  refine v_aload_n hz.1 dL_law_1876 rfl 2 rfl ?_
  refine v_aload_n hz.1 dL_law_1877 rfl 3 rfl ?_
  refine v_iload_n hz.1 dL_law_1878 rfl 0 rfl ?_
  refine v_iconst hz.1 1 dL_law_1879 rfl ?_
  refine v_iadd hz.1 dL_law_1880 ?_
  refine l_sld hz hX hbl h1 dL_law_1881 ?_
  refine v_aload_n hz.1 dL_law_1882 rfl 3 rfl ?_
  refine v_iload_n hz.1 dL_law_1883 rfl 0 rfl ?_
  refine v_iconst hz.1 2 dL_law_1884 rfl ?_
  refine v_iadd hz.1 dL_law_1885 ?_
  refine l_sld hz hX hbl h2 dL_law_1886 ?_
  refine v_aload_n hz.1 dL_law_1887 rfl 3 rfl ?_
  refine v_iload_n hz.1 dL_law_1888 rfl 0 rfl ?_
  refine v_iconst hz.1 3 dL_law_1889 rfl ?_
  refine v_iadd hz.1 dL_law_1890 ?_
  refine l_sld hz hX hbl h3 dL_law_1891 ?_
  refine l_callX hz mv_L_200 rfl (kX9_sheet (n := 98) (xs (nI i + 1).toNatClampNeg) (xs (nI i + 2).toNatClampNeg) (xs (nI i + 3).toNatClampNeg) X (v, X') e1) rfl (av := [.int (xs (nI i + 1).toNatClampNeg), .int (xs (nI i + 2).toNatClampNeg), .int (xs (nI i + 3).toNatClampNeg)]) (rest := []) rfl rfl (Nat.le_of_ble_eq_true rfl) dL_law_1892 hcs hss ?_
  refine v_aload_n hz.1 dL_law_1895 rfl 1 rfl ?_
  refine v_aload_n hz.1 dL_law_1896 rfl 3 rfl ?_
  refine v_iload_n hz.1 dL_law_1897 rfl 0 rfl ?_
  refine v_iconst hz.1 1 dL_law_1898 rfl ?_
  refine v_iadd hz.1 dL_law_1899 ?_
  refine l_sld hz hX hbl h1 dL_law_1900 ?_
  refine v_aload_n hz.1 dL_law_1901 rfl 3 rfl ?_
  refine v_iload_n hz.1 dL_law_1902 rfl 0 rfl ?_
  refine v_iconst hz.1 2 dL_law_1903 rfl ?_
  refine v_iadd hz.1 dL_law_1904 ?_
  refine l_sld hz hX hbl h2 dL_law_1905 ?_
  refine v_aload_n hz.1 dL_law_1906 rfl 3 rfl ?_
  refine v_iload_n hz.1 dL_law_1907 rfl 0 rfl ?_
  refine v_iconst hz.1 3 dL_law_1908 rfl ?_
  refine v_iadd hz.1 dL_law_1909 ?_
  refine l_sld hz hX hbl h3 dL_law_1910 ?_
  refine l_callM hz mv_L_203 rfl (kX10_sheet (n := 98) (xs (nI i + 1).toNatClampNeg) (xs (nI i + 2).toNatClampNeg) (xs (nI i + 3).toNatClampNeg) M (v, M') e2) rfl (av := [.int (xs (nI i + 1).toNatClampNeg), .int (xs (nI i + 2).toNatClampNeg), .int (xs (nI i + 3).toNatClampNeg)]) (rest := [.int v]) rfl rfl (Nat.le_of_ble_eq_true rfl) dL_law_1911 hcs hss ?_
  exact v_icmp_eq hz.1 dL_law_1914 (fun _ => kk X' M' R') (fun h => absurd rfl h)
set_option maxRecDepth 20000 in
set_option maxHeartbeats 4000000 in
theorem l_46 {Z : hZ} {Q : State → Prop} {cs ss L0 sb i : Nat} {xs : Nat → Int32} {X M : hMem} (hz : cOK Z cL_law RL 4 100 600000 7302250 0 ret) (hX : va_X sb L0 xs (h_s Z) (h_s Z).heap) (hbl : sb < (h_s Z).heap.size) (hL : L0 ≤ 3584) (hi : i + 7 ≤ L0) (hcs : cs ≤ 600000) (hss : ss ≤ 7302250) (R : RR X M) (kk : ∀ X' M' : hMem, RR X' M' → hB Z Q (cW Z X' M') cs ss 2111 [(3, .int (nI i)), (2, .ref (h_b Z + 88 + 0)), (1, .ref (h_b Z + 0)), (0, .ref sb)] []) : hB Z Q (cW Z X M) cs ss 1919 [(3, .int (nI i)), (2, .ref (h_b Z + 88 + 0)), (1, .ref (h_b Z + 0)), (0, .ref sb)] [] := by
  have h1 : vp_in (nI i + 1) L0 := l_in hi hL (k := 1) (by decide)
  have h2 : vp_in (nI i + 2) L0 := l_in hi hL (k := 2) (by decide)
  have h3 : vp_in (nI i + 3) L0 := l_in hi hL (k := 3) (by decide)
  obtain ⟨v, X', M', e1, e2, R'⟩ := eq_cell R (xs (nI i + 1).toNatClampNeg) (xs (nI i + 2).toNatClampNeg) (xs (nI i + 3).toNatClampNeg)
  refine v_aload_n hz.1 dL_law_1919 rfl 2 rfl ?_
  refine v_aload_n hz.1 dL_law_1920 rfl 3 rfl ?_
  refine v_iload_n hz.1 dL_law_1921 rfl 0 rfl ?_
  refine v_iconst hz.1 1 dL_law_1922 rfl ?_
  refine v_iadd hz.1 dL_law_1923 ?_
  refine l_sld hz hX hbl h1 dL_law_1924 ?_
  refine v_aload_n hz.1 dL_law_1925 rfl 3 rfl ?_
  refine v_iload_n hz.1 dL_law_1926 rfl 0 rfl ?_
  refine v_iconst hz.1 2 dL_law_1927 rfl ?_
  refine v_iadd hz.1 dL_law_1928 ?_
  refine l_sld hz hX hbl h2 dL_law_1929 ?_
  refine v_aload_n hz.1 dL_law_1930 rfl 3 rfl ?_
  refine v_iload_n hz.1 dL_law_1931 rfl 0 rfl ?_
  refine v_iconst hz.1 3 dL_law_1932 rfl ?_
  refine v_iadd hz.1 dL_law_1933 ?_
  refine l_sld hz hX hbl h3 dL_law_1934 ?_
  refine l_callX hz mv_L_204 rfl (kX9_cell (n := 98) (xs (nI i + 1).toNatClampNeg) (xs (nI i + 2).toNatClampNeg) (xs (nI i + 3).toNatClampNeg) X (v, X') e1) rfl (av := [.int (xs (nI i + 1).toNatClampNeg), .int (xs (nI i + 2).toNatClampNeg), .int (xs (nI i + 3).toNatClampNeg)]) (rest := []) rfl rfl (Nat.le_of_ble_eq_true rfl) dL_law_1935 hcs hss ?_
  refine v_aload_n hz.1 dL_law_1938 rfl 1 rfl ?_
  refine v_aload_n hz.1 dL_law_1939 rfl 3 rfl ?_
  refine v_iload_n hz.1 dL_law_1940 rfl 0 rfl ?_
  refine v_iconst hz.1 1 dL_law_1941 rfl ?_
  refine v_iadd hz.1 dL_law_1942 ?_
  refine l_sld hz hX hbl h1 dL_law_1943 ?_
  refine v_aload_n hz.1 dL_law_1944 rfl 3 rfl ?_
  refine v_iload_n hz.1 dL_law_1945 rfl 0 rfl ?_
  refine v_iconst hz.1 2 dL_law_1946 rfl ?_
  refine v_iadd hz.1 dL_law_1947 ?_
  refine l_sld hz hX hbl h2 dL_law_1948 ?_
  refine v_aload_n hz.1 dL_law_1949 rfl 3 rfl ?_
  refine v_iload_n hz.1 dL_law_1950 rfl 0 rfl ?_
  refine v_iconst hz.1 3 dL_law_1951 rfl ?_
  refine v_iadd hz.1 dL_law_1952 ?_
  refine l_sld hz hX hbl h3 dL_law_1953 ?_
  refine l_callM hz mv_L_207 rfl (kX10_cell (n := 98) (xs (nI i + 1).toNatClampNeg) (xs (nI i + 2).toNatClampNeg) (xs (nI i + 3).toNatClampNeg) M (v, M') e2) rfl (av := [.int (xs (nI i + 1).toNatClampNeg), .int (xs (nI i + 2).toNatClampNeg), .int (xs (nI i + 3).toNatClampNeg)]) (rest := [.int v]) rfl rfl (Nat.le_of_ble_eq_true rfl) dL_law_1954 hcs hss ?_
  exact v_icmp_eq hz.1 dL_law_1957 (fun _ => kk X' M' R') (fun h => absurd rfl h)
set_option maxRecDepth 20000 in
set_option maxHeartbeats 4000000 in
theorem l_47 {Z : hZ} {Q : State → Prop} {cs ss L0 sb i : Nat} {xs : Nat → Int32} {X M : hMem} (hz : cOK Z cL_law RL 4 100 600000 7302250 0 ret) (hX : va_X sb L0 xs (h_s Z) (h_s Z).heap) (hbl : sb < (h_s Z).heap.size) (hL : L0 ≤ 3584) (hi : i + 7 ≤ L0) (hcs : cs ≤ 600000) (hss : ss ≤ 7302250) (R : RR X M) (kk : ∀ X' M' : hMem, RR X' M' → hB Z Q (cW Z X' M') cs ss 2111 [(3, .int (nI i)), (2, .ref (h_b Z + 88 + 0)), (1, .ref (h_b Z + 0)), (0, .ref sb)] []) : hB Z Q (cW Z X M) cs ss 1962 [(3, .int (nI i)), (2, .ref (h_b Z + 88 + 0)), (1, .ref (h_b Z + 0)), (0, .ref sb)] [] := by
  have h1 : vp_in (nI i + 1) L0 := l_in hi hL (k := 1) (by decide)
  have h2 : vp_in (nI i + 2) L0 := l_in hi hL (k := 2) (by decide)
  have h3 : vp_in (nI i + 3) L0 := l_in hi hL (k := 3) (by decide)
  have h4 : vp_in (nI i + 4) L0 := l_in hi hL (k := 4) (by decide)
  have h5 : vp_in (nI i + 5) L0 := l_in hi hL (k := 5) (by decide)
  obtain ⟨v, X', M', e1, e2, R'⟩ := eq_copy R (xs (nI i + 1).toNatClampNeg) (xs (nI i + 2).toNatClampNeg) (xs (nI i + 3).toNatClampNeg) (xs (nI i + 4).toNatClampNeg) (xs (nI i + 5).toNatClampNeg)
  refine v_aload_n hz.1 dL_law_1962 rfl 2 rfl ?_
  refine v_aload_n hz.1 dL_law_1963 rfl 3 rfl ?_
  refine v_iload_n hz.1 dL_law_1964 rfl 0 rfl ?_
  refine v_iconst hz.1 1 dL_law_1965 rfl ?_
  refine v_iadd hz.1 dL_law_1966 ?_
  refine l_sld hz hX hbl h1 dL_law_1967 ?_
  refine v_aload_n hz.1 dL_law_1968 rfl 3 rfl ?_
  refine v_iload_n hz.1 dL_law_1969 rfl 0 rfl ?_
  refine v_iconst hz.1 2 dL_law_1970 rfl ?_
  refine v_iadd hz.1 dL_law_1971 ?_
  refine l_sld hz hX hbl h2 dL_law_1972 ?_
  refine v_aload_n hz.1 dL_law_1973 rfl 3 rfl ?_
  refine v_iload_n hz.1 dL_law_1974 rfl 0 rfl ?_
  refine v_iconst hz.1 3 dL_law_1975 rfl ?_
  refine v_iadd hz.1 dL_law_1976 ?_
  refine l_sld hz hX hbl h3 dL_law_1977 ?_
  refine v_aload_n hz.1 dL_law_1978 rfl 3 rfl ?_
  refine v_iload_n hz.1 dL_law_1979 rfl 0 rfl ?_
  refine v_iconst hz.1 4 dL_law_1980 rfl ?_
  refine v_iadd hz.1 dL_law_1981 ?_
  refine l_sld hz hX hbl h4 dL_law_1982 ?_
  refine v_aload_n hz.1 dL_law_1983 rfl 3 rfl ?_
  refine v_iload_n hz.1 dL_law_1984 rfl 0 rfl ?_
  refine v_iconst hz.1 5 dL_law_1985 rfl ?_
  refine v_iadd hz.1 dL_law_1986 ?_
  refine l_sld hz hX hbl h5 dL_law_1987 ?_
  refine l_callX hz mv_L_208 rfl (kX9_copy (n := 98) (xs (nI i + 1).toNatClampNeg) (xs (nI i + 2).toNatClampNeg) (xs (nI i + 3).toNatClampNeg) (xs (nI i + 4).toNatClampNeg) (xs (nI i + 5).toNatClampNeg) X (v, X') e1) rfl (av := [.int (xs (nI i + 1).toNatClampNeg), .int (xs (nI i + 2).toNatClampNeg), .int (xs (nI i + 3).toNatClampNeg), .int (xs (nI i + 4).toNatClampNeg), .int (xs (nI i + 5).toNatClampNeg)]) (rest := []) rfl rfl (Nat.le_of_ble_eq_true rfl) dL_law_1988 hcs hss ?_
  refine v_aload_n hz.1 dL_law_1991 rfl 1 rfl ?_
  refine v_aload_n hz.1 dL_law_1992 rfl 3 rfl ?_
  refine v_iload_n hz.1 dL_law_1993 rfl 0 rfl ?_
  refine v_iconst hz.1 1 dL_law_1994 rfl ?_
  refine v_iadd hz.1 dL_law_1995 ?_
  refine l_sld hz hX hbl h1 dL_law_1996 ?_
  refine v_aload_n hz.1 dL_law_1997 rfl 3 rfl ?_
  refine v_iload_n hz.1 dL_law_1998 rfl 0 rfl ?_
  refine v_iconst hz.1 2 dL_law_1999 rfl ?_
  refine v_iadd hz.1 dL_law_2000 ?_
  refine l_sld hz hX hbl h2 dL_law_2001 ?_
  refine v_aload_n hz.1 dL_law_2002 rfl 3 rfl ?_
  refine v_iload_n hz.1 dL_law_2003 rfl 0 rfl ?_
  refine v_iconst hz.1 3 dL_law_2004 rfl ?_
  refine v_iadd hz.1 dL_law_2005 ?_
  refine l_sld hz hX hbl h3 dL_law_2006 ?_
  refine v_aload_n hz.1 dL_law_2007 rfl 3 rfl ?_
  refine v_iload_n hz.1 dL_law_2008 rfl 0 rfl ?_
  refine v_iconst hz.1 4 dL_law_2009 rfl ?_
  refine v_iadd hz.1 dL_law_2010 ?_
  refine l_sld hz hX hbl h4 dL_law_2011 ?_
  refine v_aload_n hz.1 dL_law_2012 rfl 3 rfl ?_
  refine v_iload_n hz.1 dL_law_2013 rfl 0 rfl ?_
  refine v_iconst hz.1 5 dL_law_2014 rfl ?_
  refine v_iadd hz.1 dL_law_2015 ?_
  refine l_sld hz hX hbl h5 dL_law_2016 ?_
  refine l_callM hz mv_L_211 rfl (kX10_copy (n := 98) (xs (nI i + 1).toNatClampNeg) (xs (nI i + 2).toNatClampNeg) (xs (nI i + 3).toNatClampNeg) (xs (nI i + 4).toNatClampNeg) (xs (nI i + 5).toNatClampNeg) M (v, M') e2) rfl (av := [.int (xs (nI i + 1).toNatClampNeg), .int (xs (nI i + 2).toNatClampNeg), .int (xs (nI i + 3).toNatClampNeg), .int (xs (nI i + 4).toNatClampNeg), .int (xs (nI i + 5).toNatClampNeg)]) (rest := [.int v]) rfl rfl (Nat.le_of_ble_eq_true rfl) dL_law_2017 hcs hss ?_
  exact v_icmp_eq hz.1 dL_law_2020 (fun _ => kk X' M' R') (fun h => absurd rfl h)
set_option maxRecDepth 20000 in
set_option maxHeartbeats 4000000 in
theorem l_48 {Z : hZ} {Q : State → Prop} {cs ss L0 sb i : Nat} {xs : Nat → Int32} {X M : hMem} (hz : cOK Z cL_law RL 4 100 600000 7302250 0 ret) (hX : va_X sb L0 xs (h_s Z) (h_s Z).heap) (hbl : sb < (h_s Z).heap.size) (hL : L0 ≤ 3584) (hi : i + 7 ≤ L0) (hcs : cs ≤ 600000) (hss : ss ≤ 7302250) (R : RR X M) (kk : ∀ X' M' : hMem, RR X' M' → hB Z Q (cW Z X' M') cs ss 2111 [(3, .int (nI i)), (2, .ref (h_b Z + 88 + 0)), (1, .ref (h_b Z + 0)), (0, .ref sb)] []) : hB Z Q (cW Z X M) cs ss 2025 [(3, .int (nI i)), (2, .ref (h_b Z + 88 + 0)), (1, .ref (h_b Z + 0)), (0, .ref sb)] [] := by
  have h1 : vp_in (nI i + 1) L0 := l_in hi hL (k := 1) (by decide)
  have h2 : vp_in (nI i + 2) L0 := l_in hi hL (k := 2) (by decide)
  have h3 : vp_in (nI i + 3) L0 := l_in hi hL (k := 3) (by decide)
  have h4 : vp_in (nI i + 4) L0 := l_in hi hL (k := 4) (by decide)
  obtain ⟨v, X', M', e1, e2, R'⟩ := eq_gustsBy R (xs (nI i + 1).toNatClampNeg) (xs (nI i + 2).toNatClampNeg) (xs (nI i + 3).toNatClampNeg) (xs (nI i + 4).toNatClampNeg)
  refine v_aload_n hz.1 dL_law_2025 rfl 2 rfl ?_
  refine v_aload_n hz.1 dL_law_2026 rfl 3 rfl ?_
  refine v_iload_n hz.1 dL_law_2027 rfl 0 rfl ?_
  refine v_iconst hz.1 1 dL_law_2028 rfl ?_
  refine v_iadd hz.1 dL_law_2029 ?_
  refine l_sld hz hX hbl h1 dL_law_2030 ?_
  refine v_aload_n hz.1 dL_law_2031 rfl 3 rfl ?_
  refine v_iload_n hz.1 dL_law_2032 rfl 0 rfl ?_
  refine v_iconst hz.1 2 dL_law_2033 rfl ?_
  refine v_iadd hz.1 dL_law_2034 ?_
  refine l_sld hz hX hbl h2 dL_law_2035 ?_
  refine v_aload_n hz.1 dL_law_2036 rfl 3 rfl ?_
  refine v_iload_n hz.1 dL_law_2037 rfl 0 rfl ?_
  refine v_iconst hz.1 3 dL_law_2038 rfl ?_
  refine v_iadd hz.1 dL_law_2039 ?_
  refine l_sld hz hX hbl h3 dL_law_2040 ?_
  refine v_aload_n hz.1 dL_law_2041 rfl 3 rfl ?_
  refine v_iload_n hz.1 dL_law_2042 rfl 0 rfl ?_
  refine v_iconst hz.1 4 dL_law_2043 rfl ?_
  refine v_iadd hz.1 dL_law_2044 ?_
  refine l_sld hz hX hbl h4 dL_law_2045 ?_
  refine l_callX hz mv_L_212 rfl (kX9_gustsBy (n := 97) (xs (nI i + 1).toNatClampNeg) (xs (nI i + 2).toNatClampNeg) (xs (nI i + 3).toNatClampNeg) (xs (nI i + 4).toNatClampNeg) X (v, X') e1) rfl (av := [.int (xs (nI i + 1).toNatClampNeg), .int (xs (nI i + 2).toNatClampNeg), .int (xs (nI i + 3).toNatClampNeg), .int (xs (nI i + 4).toNatClampNeg)]) (rest := []) rfl rfl (Nat.le_of_ble_eq_true rfl) dL_law_2046 hcs hss ?_
  refine v_aload_n hz.1 dL_law_2049 rfl 1 rfl ?_
  refine v_aload_n hz.1 dL_law_2050 rfl 3 rfl ?_
  refine v_iload_n hz.1 dL_law_2051 rfl 0 rfl ?_
  refine v_iconst hz.1 1 dL_law_2052 rfl ?_
  refine v_iadd hz.1 dL_law_2053 ?_
  refine l_sld hz hX hbl h1 dL_law_2054 ?_
  refine v_aload_n hz.1 dL_law_2055 rfl 3 rfl ?_
  refine v_iload_n hz.1 dL_law_2056 rfl 0 rfl ?_
  refine v_iconst hz.1 2 dL_law_2057 rfl ?_
  refine v_iadd hz.1 dL_law_2058 ?_
  refine l_sld hz hX hbl h2 dL_law_2059 ?_
  refine v_aload_n hz.1 dL_law_2060 rfl 3 rfl ?_
  refine v_iload_n hz.1 dL_law_2061 rfl 0 rfl ?_
  refine v_iconst hz.1 3 dL_law_2062 rfl ?_
  refine v_iadd hz.1 dL_law_2063 ?_
  refine l_sld hz hX hbl h3 dL_law_2064 ?_
  refine v_aload_n hz.1 dL_law_2065 rfl 3 rfl ?_
  refine v_iload_n hz.1 dL_law_2066 rfl 0 rfl ?_
  refine v_iconst hz.1 4 dL_law_2067 rfl ?_
  refine v_iadd hz.1 dL_law_2068 ?_
  refine l_sld hz hX hbl h4 dL_law_2069 ?_
  refine l_callM hz mv_L_216 rfl (kX10_gustsBy (n := 97) (xs (nI i + 1).toNatClampNeg) (xs (nI i + 2).toNatClampNeg) (xs (nI i + 3).toNatClampNeg) (xs (nI i + 4).toNatClampNeg) M (v, M') e2) rfl (av := [.int (xs (nI i + 1).toNatClampNeg), .int (xs (nI i + 2).toNatClampNeg), .int (xs (nI i + 3).toNatClampNeg), .int (xs (nI i + 4).toNatClampNeg)]) (rest := [.int v]) rfl rfl (Nat.le_of_ble_eq_true rfl) dL_law_2070 hcs hss ?_
  exact v_icmp_eq hz.1 dL_law_2073 (fun _ => kk X' M' R') (fun h => absurd rfl h)
set_option maxRecDepth 20000 in
set_option maxHeartbeats 4000000 in
theorem l_49 {Z : hZ} {Q : State → Prop} {cs ss L0 sb i : Nat} {xs : Nat → Int32} {X M : hMem} (hz : cOK Z cL_law RL 4 100 600000 7302250 0 ret) (hX : va_X sb L0 xs (h_s Z) (h_s Z).heap) (hbl : sb < (h_s Z).heap.size) (hL : L0 ≤ 3584) (hi : i + 7 ≤ L0) (hcs : cs ≤ 600000) (hss : ss ≤ 7302250) (R : RR X M) (kk : ∀ X' M' : hMem, RR X' M' → hB Z Q (cW Z X' M') cs ss 2111 [(3, .int (nI i)), (2, .ref (h_b Z + 88 + 0)), (1, .ref (h_b Z + 0)), (0, .ref sb)] []) : hB Z Q (cW Z X M) cs ss 2078 [(3, .int (nI i)), (2, .ref (h_b Z + 88 + 0)), (1, .ref (h_b Z + 0)), (0, .ref sb)] [] := by
  have h1 : vp_in (nI i + 1) L0 := l_in hi hL (k := 1) (by decide)
  have h2 : vp_in (nI i + 2) L0 := l_in hi hL (k := 2) (by decide)
  obtain ⟨v, e1, e2⟩ := eq_taken R (xs (nI i + 1).toNatClampNeg) (xs (nI i + 2).toNatClampNeg)
  refine v_aload_n hz.1 dL_law_2078 rfl 2 rfl ?_
  refine v_aload_n hz.1 dL_law_2079 rfl 3 rfl ?_
  refine v_iload_n hz.1 dL_law_2080 rfl 0 rfl ?_
  refine v_iconst hz.1 1 dL_law_2081 rfl ?_
  refine v_iadd hz.1 dL_law_2082 ?_
  refine l_sld hz hX hbl h1 dL_law_2083 ?_
  refine v_aload_n hz.1 dL_law_2084 rfl 3 rfl ?_
  refine v_iload_n hz.1 dL_law_2085 rfl 0 rfl ?_
  refine v_iconst hz.1 2 dL_law_2086 rfl ?_
  refine v_iadd hz.1 dL_law_2087 ?_
  refine l_sld hz hX hbl h2 dL_law_2088 ?_
  refine l_callX hz mv_L_217 rfl (kX9_taken (n := 98) (xs (nI i + 1).toNatClampNeg) (xs (nI i + 2).toNatClampNeg) X v e1) rfl (av := [.int (xs (nI i + 1).toNatClampNeg), .int (xs (nI i + 2).toNatClampNeg)]) (rest := []) rfl rfl (Nat.le_of_ble_eq_true rfl) dL_law_2089 hcs hss ?_
  refine v_aload_n hz.1 dL_law_2092 rfl 1 rfl ?_
  refine v_aload_n hz.1 dL_law_2093 rfl 3 rfl ?_
  refine v_iload_n hz.1 dL_law_2094 rfl 0 rfl ?_
  refine v_iconst hz.1 1 dL_law_2095 rfl ?_
  refine v_iadd hz.1 dL_law_2096 ?_
  refine l_sld hz hX hbl h1 dL_law_2097 ?_
  refine v_aload_n hz.1 dL_law_2098 rfl 3 rfl ?_
  refine v_iload_n hz.1 dL_law_2099 rfl 0 rfl ?_
  refine v_iconst hz.1 2 dL_law_2100 rfl ?_
  refine v_iadd hz.1 dL_law_2101 ?_
  refine l_sld hz hX hbl h2 dL_law_2102 ?_
  refine l_callM hz mv_L_220 rfl (kX10_taken (n := 98) (xs (nI i + 1).toNatClampNeg) (xs (nI i + 2).toNatClampNeg) M v e2) rfl (av := [.int (xs (nI i + 1).toNatClampNeg), .int (xs (nI i + 2).toNatClampNeg)]) (rest := [.int v]) rfl rfl (Nat.le_of_ble_eq_true rfl) dL_law_2103 hcs hss ?_
  exact v_icmp_eq hz.1 dL_law_2106 (fun _ => kk X M R) (fun h => absurd rfl h)
