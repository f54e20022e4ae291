theorem kcX11_80 : Cond.constantLong "LehrBeltModel" 80 3 ∈ lw_tbl := List.mem_of_getElem? (i := 1610) (by decide +kernel)
theorem slX11_82 : SL "LehrBeltModel" 82 yX11_in bX11_in 6 ((some .boolean)) 3 := ⟨List.mem_of_getElem? (i := 1611) (by decide +kernel), List.mem_of_getElem? (i := 1612) (by decide +kernel), List.mem_of_getElem? (i := 115) (by decide +kernel), List.mem_of_getElem? (i := 1613) (by decide +kernel), by decide +kernel, by decide +kernel, by decide +kernel⟩
theorem fpX11_77 : FP "LehrBeltModel" 77 11 0 0 .int := ⟨(RX11, TX11, 39), rfl, inX11, by decide, List.mem_of_getElem? (i := 1485) (by decide +kernel), rfl, ⟨tyX11, tyX11_ok⟩, nmX11, rfl, by decide +kernel⟩
theorem slX11_86 : SL "LehrBeltModel" 86 yX11_isSlot bX11_isSlot 1 ((some .boolean)) 1 := ⟨List.mem_of_getElem? (i := 1607) (by decide +kernel), List.mem_of_getElem? (i := 1608) (by decide +kernel), List.mem_of_getElem? (i := 115) (by decide +kernel), List.mem_of_getElem? (i := 1609) (by decide +kernel), by decide +kernel, by decide +kernel, by decide +kernel⟩
theorem flX11_7 : FL "LehrBeltModel" 7 11 1 2 := ⟨(RX11, TX11, 39), rfl, inX11, by decide, List.mem_of_getElem? (i := 1486) (by decide +kernel), rfl⟩
theorem flX11_13 : FL "LehrBeltModel" 13 11 2 2 := ⟨(RX11, TX11, 39), rfl, inX11, by decide, List.mem_of_getElem? (i := 1487) (by decide +kernel), rfl⟩
theorem flX11_16 : FL "LehrBeltModel" 16 11 3 2 := ⟨(RX11, TX11, 39), rfl, inX11, by decide, List.mem_of_getElem? (i := 1488) (by decide +kernel), rfl⟩
theorem slX11_90 : SL "LehrBeltModel" 90 yX11_cut bX11_cut 3 ((some .long)) 2 := ⟨List.mem_of_getElem? (i := 1618) (by decide +kernel), List.mem_of_getElem? (i := 1619) (by decide +kernel), List.mem_of_getElem? (i := 115) (by decide +kernel), List.mem_of_getElem? (i := 1620) (by decide +kernel), by decide +kernel, by decide +kernel, by decide +kernel⟩
theorem flX11_20 : FL "LehrBeltModel" 20 11 4 2 := ⟨(RX11, TX11, 39), rfl, inX11, by decide, List.mem_of_getElem? (i := 1489) (by decide +kernel), rfl⟩
theorem flX11_23 : FL "LehrBeltModel" 23 11 5 2 := ⟨(RX11, TX11, 39), rfl, inX11, by decide, List.mem_of_getElem? (i := 1490) (by decide +kernel), rfl⟩
theorem flX11_94 : FL "LehrBeltModel" 94 11 6 0 := ⟨(RX11, TX11, 39), rfl, inX11, by decide, List.mem_of_getElem? (i := 1491) (by decide +kernel), rfl⟩
theorem fpX11_94 : FP "LehrBeltModel" 94 11 6 0 .int := ⟨(RX11, TX11, 39), rfl, inX11, by decide, List.mem_of_getElem? (i := 1491) (by decide +kernel), rfl, ⟨tyX11, tyX11_ok⟩, nmX11, rfl, by decide +kernel⟩
theorem vlX11_97 : VL "LehrBeltModel" 97 yX11_four bX11_four 3 (none) 1 := ⟨List.mem_of_getElem? (i := 1629) (by decide +kernel), List.mem_of_getElem? (i := 1631) (by decide +kernel), List.mem_of_getElem? (i := 37) (by decide +kernel), List.mem_of_getElem? (i := 115) (by decide +kernel), List.mem_of_getElem? (i := 1632) (by decide +kernel), by decide +kernel, by decide +kernel, by decide +kernel⟩
theorem flX11_101 : FL "LehrBeltModel" 101 11 7 0 := ⟨(RX11, TX11, 39), rfl, inX11, by decide, List.mem_of_getElem? (i := 1492) (by decide +kernel), rfl⟩
theorem vlX11_104 : VL "LehrBeltModel" 104 yX11_isByte bX11_isByte 4 ((some .boolean)) 3 := ⟨List.mem_of_getElem? (i := 1661) (by decide +kernel), List.mem_of_getElem? (i := 1663) (by decide +kernel), List.mem_of_getElem? (i := 42) (by decide +kernel), List.mem_of_getElem? (i := 115) (by decide +kernel), List.mem_of_getElem? (i := 1664) (by decide +kernel), by decide +kernel, by decide +kernel, by decide +kernel⟩
theorem fpX11_101 : FP "LehrBeltModel" 101 11 7 0 .int := ⟨(RX11, TX11, 39), rfl, inX11, by decide, List.mem_of_getElem? (i := 1492) (by decide +kernel), rfl, ⟨tyX11, tyX11_ok⟩, nmX11, rfl, by decide +kernel⟩
theorem fpX11_108 : FP "LehrBeltModel" 108 11 9 0 .int := ⟨(RX11, TX11, 39), rfl, inX11, by decide, List.mem_of_getElem? (i := 1494) (by decide +kernel), rfl, ⟨tyX11, tyX11_ok⟩, nmX11, rfl, by decide +kernel⟩
theorem fpX11_111 : FP "LehrBeltModel" 111 11 10 0 .int := ⟨(RX11, TX11, 39), rfl, inX11, by decide, List.mem_of_getElem? (i := 1495) (by decide +kernel), rfl, ⟨tyX11, tyX11_ok⟩, nmX11, rfl, by decide +kernel⟩
theorem fpX11_114 : FP "LehrBeltModel" 114 11 11 1 .long := ⟨(RX11, TX11, 39), rfl, inX11, by decide, List.mem_of_getElem? (i := 1496) (by decide +kernel), rfl, ⟨tyX11, tyX11_ok⟩, nmX11, rfl, by decide +kernel⟩
theorem fpX11_118 : FP "LehrBeltModel" 118 11 8 0 .int := ⟨(RX11, TX11, 39), rfl, inX11, by decide, List.mem_of_getElem? (i := 1493) (by decide +kernel), rfl, ⟨tyX11, tyX11_ok⟩, nmX11, rfl, by decide +kernel⟩
theorem flX11_111 : FL "LehrBeltModel" 111 11 10 0 := ⟨(RX11, TX11, 39), rfl, inX11, by decide, List.mem_of_getElem? (i := 1495) (by decide +kernel), rfl⟩
theorem kcX11_127 : Cond.constant "LehrBeltModel" 127 100000 ∈ lw_tbl := List.mem_of_getElem? (i := 1668) (by decide +kernel)
theorem kcX11_128 : Cond.constant "LehrBeltModel" 128 1000000 ∈ lw_tbl := List.mem_of_getElem? (i := 1669) (by decide +kernel)
theorem kcX11_123 : Cond.constantLong "LehrBeltModel" 123 27 ∈ lw_tbl := List.mem_of_getElem? (i := 1666) (by decide +kernel)
theorem flX11_114 : FL "LehrBeltModel" 114 11 11 1 := ⟨(RX11, TX11, 39), rfl, inX11, by decide, List.mem_of_getElem? (i := 1496) (by decide +kernel), rfl⟩
theorem kcX11_125 : Cond.constantLong "LehrBeltModel" 125 96 ∈ lw_tbl := List.mem_of_getElem? (i := 1667) (by decide +kernel)
theorem kcX11_121 : Cond.constantLong "LehrBeltModel" 121 (-1) ∈ lw_tbl := List.mem_of_getElem? (i := 1665) (by decide +kernel)
theorem flX11_129 : FL "LehrBeltModel" 129 11 12 0 := ⟨(RX11, TX11, 39), rfl, inX11, by decide, List.mem_of_getElem? (i := 1497) (by decide +kernel), rfl⟩
theorem fpX11_129 : FP "LehrBeltModel" 129 11 12 0 .int := ⟨(RX11, TX11, 39), rfl, inX11, by decide, List.mem_of_getElem? (i := 1497) (by decide +kernel), rfl, ⟨tyX11, tyX11_ok⟩, nmX11, rfl, by decide +kernel⟩
theorem flX11_108 : FL "LehrBeltModel" 108 11 9 0 := ⟨(RX11, TX11, 39), rfl, inX11, by decide, List.mem_of_getElem? (i := 1494) (by decide +kernel), rfl⟩
theorem fpX11_132 : FP "LehrBeltModel" 132 11 13 0 .int := ⟨(RX11, TX11, 39), rfl, inX11, by decide, List.mem_of_getElem? (i := 1498) (by decide +kernel), rfl, ⟨tyX11, tyX11_ok⟩, nmX11, rfl, by decide +kernel⟩
theorem flX11_118 : FL "LehrBeltModel" 118 11 8 0 := ⟨(RX11, TX11, 39), rfl, inX11, by decide, List.mem_of_getElem? (i := 1493) (by decide +kernel), rfl⟩
theorem vlX11_135 : VL "LehrBeltModel" 135 yX11_is bX11_is 3 ((some .boolean)) 1 := ⟨List.mem_of_getElem? (i := 1683) (by decide +kernel), List.mem_of_getElem? (i := 1685) (by decide +kernel), List.mem_of_getElem? (i := 46) (by decide +kernel), List.mem_of_getElem? (i := 115) (by decide +kernel), List.mem_of_getElem? (i := 1686) (by decide +kernel), by decide +kernel, by decide +kernel, by decide +kernel⟩
theorem vlX11_139 : VL "LehrBeltModel" 139 yX11_next bX11_next 2 (none) 0 := ⟨List.mem_of_getElem? (i := 1657) (by decide +kernel), List.mem_of_getElem? (i := 1659) (by decide +kernel), List.mem_of_getElem? (i := 41) (by decide +kernel), List.mem_of_getElem? (i := 115) (by decide +kernel), List.mem_of_getElem? (i := 1660) (by decide +kernel), by decide +kernel, by decide +kernel, by decide +kernel⟩
theorem vlX11_142 : VL "LehrBeltModel" 142 yX11_takesWord bX11_takesWord 3 ((some .boolean)) 1 := ⟨List.mem_of_getElem? (i := 1679) (by decide +kernel), List.mem_of_getElem? (i := 1681) (by decide +kernel), List.mem_of_getElem? (i := 45) (by decide +kernel), List.mem_of_getElem? (i := 115) (by decide +kernel), List.mem_of_getElem? (i := 1682) (by decide +kernel), by decide +kernel, by decide +kernel, by decide +kernel⟩
theorem vlX11_145 : VL "LehrBeltModel" 145 yX11_fails bX11_fails 2 (none) 1 := ⟨List.mem_of_getElem? (i := 1687) (by decide +kernel), List.mem_of_getElem? (i := 1689) (by decide +kernel), List.mem_of_getElem? (i := 47) (by decide +kernel), List.mem_of_getElem? (i := 115) (by decide +kernel), List.mem_of_getElem? (i := 1690) (by decide +kernel), by decide +kernel, by decide +kernel, by decide +kernel⟩
theorem vlX11_148 : VL "LehrBeltModel" 148 yX11_asks bX11_asks 3 (none) 1 := ⟨List.mem_of_getElem? (i := 1675) (by decide +kernel), List.mem_of_getElem? (i := 1677) (by decide +kernel), List.mem_of_getElem? (i := 44) (by decide +kernel), List.mem_of_getElem? (i := 115) (by decide +kernel), List.mem_of_getElem? (i := 1678) (by decide +kernel), by decide +kernel, by decide +kernel, by decide +kernel⟩
theorem vlX11_152 : VL "LehrBeltModel" 152 yX11_number bX11_number 4 ((some .int)) 2 := ⟨List.mem_of_getElem? (i := 1696) (by decide +kernel), List.mem_of_getElem? (i := 1698) (by decide +kernel), List.mem_of_getElem? (i := 49) (by decide +kernel), List.mem_of_getElem? (i := 115) (by decide +kernel), List.mem_of_getElem? (i := 1699) (by decide +kernel), by decide +kernel, by decide +kernel, by decide +kernel⟩
theorem fpX11_156 : FP "LehrBeltModel" 156 11 14 0 .int := ⟨(RX11, TX11, 39), rfl, inX11, by decide, List.mem_of_getElem? (i := 1499) (by decide +kernel), rfl, ⟨tyX11, tyX11_ok⟩, nmX11, rfl, by decide +kernel⟩
theorem flX11_132 : FL "LehrBeltModel" 132 11 13 0 := ⟨(RX11, TX11, 39), rfl, inX11, by decide, List.mem_of_getElem? (i := 1498) (by decide +kernel), rfl⟩
theorem fpX11_27 : FP "LehrBeltModel" 27 11 15 0 .int := ⟨(RX11, TX11, 39), rfl, inX11, by decide, List.mem_of_getElem? (i := 1500) (by decide +kernel), rfl, ⟨tyX11, tyX11_ok⟩, nmX11, rfl, by decide +kernel⟩
theorem flX11_27 : FL "LehrBeltModel" 27 11 15 0 := ⟨(RX11, TX11, 39), rfl, inX11, by decide, List.mem_of_getElem? (i := 1500) (by decide +kernel), rfl⟩
theorem flX11_156 : FL "LehrBeltModel" 156 11 14 0 := ⟨(RX11, TX11, 39), rfl, inX11, by decide, List.mem_of_getElem? (i := 1499) (by decide +kernel), rfl⟩
theorem flX11_34 : FL "LehrBeltModel" 34 11 17 2 := ⟨(RX11, TX11, 39), rfl, inX11, by decide, List.mem_of_getElem? (i := 1502) (by decide +kernel), rfl⟩
theorem vlX11_159 : VL "LehrBeltModel" 159 yX11_hasRead bX11_hasRead 2 ((some .int)) 1 := ⟨List.mem_of_getElem? (i := 1713) (by decide +kernel), List.mem_of_getElem? (i := 1715) (by decide +kernel), List.mem_of_getElem? (i := 52) (by decide +kernel), List.mem_of_getElem? (i := 115) (by decide +kernel), List.mem_of_getElem? (i := 1716) (by decide +kernel), by decide +kernel, by decide +kernel, by decide +kernel⟩
theorem flX11_40 : FL "LehrBeltModel" 40 11 19 2 := ⟨(RX11, TX11, 39), rfl, inX11, by decide, List.mem_of_getElem? (i := 1504) (by decide +kernel), rfl⟩
theorem kcX11_163 : Cond.constantLong "LehrBeltModel" 163 161156 ∈ lw_tbl := List.mem_of_getElem? (i := 1722) (by decide +kernel)
theorem vlX11_165 : VL "LehrBeltModel" 165 yX11_number_ bX11_number_ 5 ((some .int)) 3 := ⟨List.mem_of_getElem? (i := 1692) (by decide +kernel), List.mem_of_getElem? (i := 1694) (by decide +kernel), List.mem_of_getElem? (i := 48) (by decide +kernel), List.mem_of_getElem? (i := 115) (by decide +kernel), List.mem_of_getElem? (i := 1695) (by decide +kernel), by decide +kernel, by decide +kernel, by decide +kernel⟩
theorem kcX11_168 : Cond.constantLong "LehrBeltModel" 168 10792937 ∈ lw_tbl := List.mem_of_getElem? (i := 1723) (by decide +kernel)
theorem kcX11_170 : Cond.constantLong "LehrBeltModel" 170 1162531 ∈ lw_tbl := List.mem_of_getElem? (i := 1724) (by decide +kernel)
theorem kcX11_172 : Cond.constantLong "LehrBeltModel" 172 47 ∈ lw_tbl := List.mem_of_getElem? (i := 1725) (by decide +kernel)
theorem vlX11_174 : VL "LehrBeltModel" 174 yX11_tells bX11_tells 3 (none) 2 := ⟨List.mem_of_getElem? (i := 1649) (by decide +kernel), List.mem_of_getElem? (i := 1651) (by decide +kernel), List.mem_of_getElem? (i := 39) (by decide +kernel), List.mem_of_getElem? (i := 115) (by decide +kernel), List.mem_of_getElem? (i := 1652) (by decide +kernel), by decide +kernel, by decide +kernel, by decide +kernel⟩
theorem kcX11_178 : Cond.constantLong "LehrBeltModel" 178 523076 ∈ lw_tbl := List.mem_of_getElem? (i := 1708) (by decide +kernel)
theorem vlX11_180 : VL "LehrBeltModel" 180 yX11_isRoom bX11_isRoom 4 ((some .boolean)) 3 := ⟨List.mem_of_getElem? (i := 1709) (by decide +kernel), List.mem_of_getElem? (i := 1711) (by decide +kernel), List.mem_of_getElem? (i := 51) (by decide +kernel), List.mem_of_getElem? (i := 115) (by decide +kernel), List.mem_of_getElem? (i := 1712) (by decide +kernel), by decide +kernel, by decide +kernel, by decide +kernel⟩
theorem kcX11_184 : Cond.constantLong "LehrBeltModel" 184 8683934 ∈ lw_tbl := List.mem_of_getElem? (i := 1717) (by decide +kernel)
theorem vlX11_186 : VL "LehrBeltModel" 186 yX11_pieceLine bX11_pieceLine 2 (none) 0 := ⟨List.mem_of_getElem? (i := 1718) (by decide +kernel), List.mem_of_getElem? (i := 1720) (by decide +kernel), List.mem_of_getElem? (i := 53) (by decide +kernel), List.mem_of_getElem? (i := 115) (by decide +kernel), List.mem_of_getElem? (i := 1721) (by decide +kernel), by decide +kernel, by decide +kernel, by decide +kernel⟩
theorem flX11_37 : FL "LehrBeltModel" 37 11 18 2 := ⟨(RX11, TX11, 39), rfl, inX11, by decide, List.mem_of_getElem? (i := 1503) (by decide +kernel), rfl⟩
theorem flX11_31 : FL "LehrBeltModel" 31 11 16 2 := ⟨(RX11, TX11, 39), rfl, inX11, by decide, List.mem_of_getElem? (i := 1501) (by decide +kernel), rfl⟩
theorem slX11_223 : SL "LehrBeltModel" 223 yX11_copyRow bX11_copyRow 5 (none) 4 := ⟨List.mem_of_getElem? (i := 1738) (by decide +kernel), List.mem_of_getElem? (i := 1739) (by decide +kernel), List.mem_of_getElem? (i := 115) (by decide +kernel), List.mem_of_getElem? (i := 1740) (by decide +kernel), by decide +kernel, by decide +kernel, by decide +kernel⟩
theorem flX11_43 : FL "LehrBeltModel" 43 11 20 2 := ⟨(RX11, TX11, 39), rfl, inX11, by decide, List.mem_of_getElem? (i := 1505) (by decide +kernel), rfl⟩
theorem vlX11_189 : VL "LehrBeltModel" 189 yX11_clears bX11_clears 2 (none) 0 := ⟨List.mem_of_getElem? (i := 1645) (by decide +kernel), List.mem_of_getElem? (i := 1647) (by decide +kernel), List.mem_of_getElem? (i := 38) (by decide +kernel), List.mem_of_getElem? (i := 115) (by decide +kernel), List.mem_of_getElem? (i := 1648) (by decide +kernel), by decide +kernel, by decide +kernel, by decide +kernel⟩
theorem vlX11_192 : VL "LehrBeltModel" 192 yX11_begins bX11_begins 1 (none) 0 := ⟨List.mem_of_getElem? (i := 1653) (by decide +kernel), List.mem_of_getElem? (i := 1655) (by decide +kernel), List.mem_of_getElem? (i := 40) (by decide +kernel), List.mem_of_getElem? (i := 115) (by decide +kernel), List.mem_of_getElem? (i := 1656) (by decide +kernel), by decide +kernel, by decide +kernel, by decide +kernel⟩
theorem vlX11_195 : VL "LehrBeltModel" 195 yX11_isGood bX11_isGood 1 ((some .boolean)) 0 := ⟨List.mem_of_getElem? (i := 1670) (by decide +kernel), List.mem_of_getElem? (i := 1672) (by decide +kernel), List.mem_of_getElem? (i := 43) (by decide +kernel), List.mem_of_getElem? (i := 115) (by decide +kernel), List.mem_of_getElem? (i := 1673) (by decide +kernel), by decide +kernel, by decide +kernel, by decide +kernel⟩
theorem vlX11_217 : VL "LehrBeltModel" 217 yX11_isOver bX11_isOver 1 (none) 0 := ⟨List.mem_of_getElem? (i := 1730) (by decide +kernel), List.mem_of_getElem? (i := 1732) (by decide +kernel), List.mem_of_getElem? (i := 55) (by decide +kernel), List.mem_of_getElem? (i := 115) (by decide +kernel), List.mem_of_getElem? (i := 1733) (by decide +kernel), by decide +kernel, by decide +kernel, by decide +kernel⟩
theorem vlX11_220 : VL "LehrBeltModel" 220 yX11_copyLehr bX11_copyLehr 3 (none) 2 := ⟨List.mem_of_getElem? (i := 1734) (by decide +kernel), List.mem_of_getElem? (i := 1736) (by decide +kernel), List.mem_of_getElem? (i := 56) (by decide +kernel), List.mem_of_getElem? (i := 115) (by decide +kernel), List.mem_of_getElem? (i := 1737) (by decide +kernel), by decide +kernel, by decide +kernel, by decide +kernel⟩
theorem vlX11_211 : VL "LehrBeltModel" 211 yX11_lineHere bX11_lineHere 1 (none) 0 := ⟨List.mem_of_getElem? (i := 1704) (by decide +kernel), List.mem_of_getElem? (i := 1706) (by decide +kernel), List.mem_of_getElem? (i := 50) (by decide +kernel), List.mem_of_getElem? (i := 115) (by decide +kernel), List.mem_of_getElem? (i := 1707) (by decide +kernel), by decide +kernel, by decide +kernel, by decide +kernel⟩
theorem vlX11_214 : VL "LehrBeltModel" 214 yX11_ends bX11_ends 1 (none) 0 := ⟨List.mem_of_getElem? (i := 1726) (by decide +kernel), List.mem_of_getElem? (i := 1728) (by decide +kernel), List.mem_of_getElem? (i := 54) (by decide +kernel), List.mem_of_getElem? (i := 115) (by decide +kernel), List.mem_of_getElem? (i := 1729) (by decide +kernel), by decide +kernel, by decide +kernel, by decide +kernel⟩
theorem kcX11_199 : Cond.constantLong "LehrBeltModel" 199 240075 ∈ lw_tbl := List.mem_of_getElem? (i := 1674) (by decide +kernel)
theorem kcX11_201 : Cond.constantLong "LehrBeltModel" 201 10495135 ∈ lw_tbl := List.mem_of_getElem? (i := 1691) (by decide +kernel)
theorem kcX11_203 : Cond.constantLong "LehrBeltModel" 203 8798 ∈ lw_tbl := List.mem_of_getElem? (i := 1700) (by decide +kernel)
theorem kcX11_205 : Cond.constantLong "LehrBeltModel" 205 298288 ∈ lw_tbl := List.mem_of_getElem? (i := 1701) (by decide +kernel)
theorem kcX11_207 : Cond.constantLong "LehrBeltModel" 207 315743 ∈ lw_tbl := List.mem_of_getElem? (i := 1702) (by decide +kernel)
theorem kcX11_209 : Cond.constantLong "LehrBeltModel" 209 14006 ∈ lw_tbl := List.mem_of_getElem? (i := 1703) (by decide +kernel)
theorem vlX11_227 : VL "LehrBeltModel" 227 yX11_pieces bX11_pieces 1 ((some .int)) 0 := ⟨List.mem_of_getElem? (i := 1757) (by decide +kernel), List.mem_of_getElem? (i := 1759) (by decide +kernel), List.mem_of_getElem? (i := 59) (by decide +kernel), List.mem_of_getElem? (i := 115) (by decide +kernel), List.mem_of_getElem? (i := 1760) (by decide +kernel), by decide +kernel, by decide +kernel, by decide +kernel⟩
theorem vlX11_231 : VL "LehrBeltModel" 231 yX11_isLehr bX11_isLehr 1 ((some .boolean)) 0 := ⟨List.mem_of_getElem? (i := 1769) (by decide +kernel), List.mem_of_getElem? (i := 1771) (by decide +kernel), List.mem_of_getElem? (i := 61) (by decide +kernel), List.mem_of_getElem? (i := 115) (by decide +kernel), List.mem_of_getElem? (i := 1772) (by decide +kernel), by decide +kernel, by decide +kernel, by decide +kernel⟩
theorem vlX11_234 : VL "LehrBeltModel" 234 yX11_steps bX11_steps 1 ((some .int)) 0 := ⟨List.mem_of_getElem? (i := 1773) (by decide +kernel), List.mem_of_getElem? (i := 1775) (by decide +kernel), List.mem_of_getElem? (i := 62) (by decide +kernel), List.mem_of_getElem? (i := 115) (by decide +kernel), List.mem_of_getElem? (i := 1776) (by decide +kernel), by decide +kernel, by decide +kernel, by decide +kernel⟩
theorem vlX11_237 : VL "LehrBeltModel" 237 yX11_isPiece bX11_isPiece 3 ((some .boolean)) 1 := ⟨List.mem_of_getElem? (i := 1753) (by decide +kernel), List.mem_of_getElem? (i := 1755) (by decide +kernel), List.mem_of_getElem? (i := 58) (by decide +kernel), List.mem_of_getElem? (i := 115) (by decide +kernel), List.mem_of_getElem? (i := 1756) (by decide +kernel), by decide +kernel, by decide +kernel, by decide +kernel⟩
theorem vlX11_240 : VL "LehrBeltModel" 240 yX11_isStep bX11_isStep 3 ((some .boolean)) 1 := ⟨List.mem_of_getElem? (i := 1765) (by decide +kernel), List.mem_of_getElem? (i := 1767) (by decide +kernel), List.mem_of_getElem? (i := 60) (by decide +kernel), List.mem_of_getElem? (i := 115) (by decide +kernel), List.mem_of_getElem? (i := 1768) (by decide +kernel), by decide +kernel, by decide +kernel, by decide +kernel⟩
theorem z_X11_in {p0 : Int64} {p2 : Int64} {p4 : Int64} {M : Mem} : f_X11_in p0 p2 p4 M = 0 ∨ f_X11_in p0 p2 p4 M = 1 := by
  unfold f_X11_in
  repeat' split
  all_goals first | exact Or.inl rfl | exact Or.inr rfl
set_option maxRecDepth 100000 in
set_option maxHeartbeats 4000000 in
theorem c_X11_in {l : Launch} {P : Wp} {E : State → Heap → Prop} (hW : Wok shR P E) {p0 : Int64} {p2 : Int64} {p4 : Int64} {M : Mem} {r : Int32} (h : f_X11_in p0 p2 p4 M = r) : CT l shR P E yX11_in bX11_in 6 ((some .boolean)) 0 0 [.long p0, .long p2, .long p4] (some (.int r)) M M := by
  refine ct_of hW (by decide) (Nat.le_of_ble_eq_true rfl) (fun p e s m args below meth c C ls hl hw => ?_)
  have hx := C.1
  have hb := C.2.1
  replace hl : lv_has ls 6 [(0, .long p0), (2, .long p2), (4, .long p4)] := hl
  refine lv_lload_n hx hb dX11_in_0 rfl (lv_at hl 0 rfl) ?_
  refine lv_lload_n hx hb dX11_in_1 rfl (lv_at hl 1 rfl) ?_
  refine W.lcmp hx hb dX11_in_2 ?_
  refine lv_if_lt (tgt := 17) hx hb dX11_in_3 (by decide) (fun c1 => ?_) (fun c1 => ?_)
  · replace h := (if_pos c1).symm.trans h
    refine lv_iconst (v := 0) hx hb dX11_in_17 (by decide) ?_
    exact wretZ_T C hw (Or.inl rfl) h dX11_in_18
  · replace h := (if_neg c1).symm.trans h
    refine lv_lload_n hx hb dX11_in_6 rfl (lv_at hl 0 rfl) ?_
    refine lv_lload hx hb dX11_in_7 (lv_at hl 2 rfl) ?_
    refine W.lcmp hx hb dX11_in_9 ?_
    refine lv_if_gt (tgt := 17) hx hb dX11_in_10 (by decide) (fun c2 => ?_) (fun c2 => ?_)
    · replace h := (if_pos c2).symm.trans h
      refine lv_iconst (v := 0) hx hb dX11_in_17 (by decide) ?_
      exact wretZ_T C hw (Or.inl rfl) h dX11_in_18
    · replace h := (if_neg c2).symm.trans h
      refine lv_iconst (v := 1) hx hb dX11_in_13 (by decide) ?_
      refine lv_goto (tgt := 18) hx hb dX11_in_14 (by decide) ?_
      exact wretZ_T C hw (Or.inr rfl) h dX11_in_18
theorem z_X11_isSlot {p0 : Int32} {M : Mem} : f_X11_isSlot p0 M = 0 ∨ f_X11_isSlot p0 M = 1 := by
  unfold f_X11_isSlot
  repeat' split
  all_goals first | exact Or.inl rfl | exact Or.inr rfl | exact z_X11_in
set_option maxRecDepth 100000 in
set_option maxHeartbeats 4000000 in
theorem c_X11_isSlot {l : Launch} {P : Wp} {E : State → Heap → Prop} (hW : Wok shR P E) {p0 : Int32} {M : Mem} {r : Int32} (h : f_X11_isSlot p0 M = r) : CT l shR P E yX11_isSlot bX11_isSlot 1 ((some .boolean)) 1 25 [.int p0] (some (.int r)) M M := by
  refine ct_of hW (by decide) (Nat.le_of_ble_eq_true rfl) (fun p e s m args below meth c C ls hl hw => ?_)
  have hx := C.1
  have hb := C.2.1
  replace hl : lv_has ls 1 [(0, .int p0)] := hl
  refine lv_iload_n hx hb dX11_isSlot_0 rfl (lv_at hl 0 rfl) ?_
  refine lv_i2l hx hb dX11_isSlot_1 rfl ?_
  refine lv_lconst (v := 0) hx hb dX11_isSlot_2 (by decide) ?_
  refine lv_ldc2 hx hb C.2.2.2.1 (C.2.2.2.2.1 _ (List.mem_cons_of_mem _ (gm kcX11_80 rfl))) dX11_isSlot_3 ?_
  refine wcallS1 (As := [.long ((p0 : Int32).toInt64), .long 0, .long 3]) (rest := []) C hw (c_X11_in hW  rfl) slX11_82 ⟨Nat.le_of_ble_eq_true rfl, Nat.le_of_ble_eq_true rfl⟩ rfl rfl hl.1 (Nat.le_of_ble_eq_true rfl) dX11_isSlot_6 ⟨Nat.zero_le _, Nat.zero_le _⟩ (fun H locs hw => ?_)
  exact wretZ_T C hw z_X11_in h dX11_isSlot_9
set_option maxRecDepth 100000 in
set_option maxHeartbeats 4000000 in
theorem c_X11_row {l : Launch} {P : Wp} {E : State → Heap → Prop} (hW : Wok shR P E) {p1 : Int32} {p2 : Int32} {p3 : Int32} {M : Mem} {r : Int32} {M' : Mem} (h : f_X11_row p1 p2 p3 M = some (r, M')) : CT l shR P E yX11_row bX11_row 5 ((some .int)) 2 45 [.ref (P.2.2.1 0), .int p1, .int p2, .int p3] (some (.int r)) M M' := by
  refine ct_of hW (by decide) (Nat.le_of_ble_eq_true rfl) (fun p e s m args below meth c C ls hl hw => ?_)
  have hx := C.1
  have hb := C.2.1
  replace hl : lv_has ls 5 [(0, .ref (P.2.2.1 0)), (1, .int p1), (2, .int p2), (3, .int p3)] := hl
  have cut_57 : ∀ (n_57 : Nat) (v4_57 : Int32) (M_57 : Mem) (ls : Array Slot) (H : Heap) (locs : List Loc), lv_has ls 5 [(0, .ref (P.2.2.1 0)), (1, .int p1), (3, .int p3), (4, .int v4_57)] → Hw shR P M_57 s H locs → lq2 (L_X11_row_57 p1 p2 p3) n_57 v4_57 M_57 = some (r, M') → W p l e { frames := 2, cells := 0, slots := 0, locals := 45 } s m args below meth c H locs 0 0 (MQ below (CQ shR P E (some (.int r)) M') args s 0 0 (wA shR P)) (F0 m 57 ls []) := by
    intro n_57
    induction n_57 with
    | zero => intro v4_57 M_57 ls H locs hl hw h; cases h
    | succ n_57 ih_57 =>
      intro v4_57 M_57 ls H locs hl hw h
      replace h := lq2_succ h
      refine lv_iload hx hb dX11_row_57 (lv_at hl 3 rfl) ?_
      refine lv_iload_n hx hb dX11_row_59 rfl (lv_at hl 2 rfl) ?_
      refine lv_icmp_ge (tgt := 82) hx hb dX11_row_60 (by decide) (fun c10 => ?_) (fun c10 => ?_)
      · replace h := (if_pos c10).symm.trans h
        refine lv_iconst (v := 0) hx hb dX11_row_82 (by decide) ?_
        exact wretI_W C hw h dX11_row_83
      · replace h := (if_neg c10).symm.trans h
        refine lv_aload_n hx hb dX11_row_63 rfl (lv_at hl 0 rfl) ?_
        refine wgetR (t := 3) C hw flX11_16 (rfl : _ = some (0, 11)) rfl dX11_row_64 ?_
        refine lv_bipush (v := 60) hx hb dX11_row_67 (by decide) ?_
        refine lv_iload_n hx hb dX11_row_69 rfl (lv_at hl 1 rfl) ?_
        refine lv_imul hx hb dX11_row_70 ?_
        refine lv_iload hx hb dX11_row_71 (lv_at hl 3 rfl) ?_
        refine lv_iadd hx hb dX11_row_73 ?_
        refine lv_lconst (v := 0) hx hb dX11_row_74 (by decide) ?_
        obtain ⟨g12, h⟩ := grd h
        refine wlast C hw (rfl : _ = some (4, 240)) g12 dX11_row_75 (fun M11 eM11 H locs hw => ?_)
        replace h := letv_at eM11 h
        refine lv_iinc (v := (v4_57 + 1)) (lv' := [(4, .int (v4_57 + 1)), (0, .ref (P.2.2.1 0)), (1, .int p1), (3, .int p3)]) (k := 3) hx hb dX11_row_76 hl rfl (congrArg (fun z => v4_57 + z) (by decide)) (by decide) rfl (fun ls hl => ?_)
        refine lv_goto (tgt := 57) hx hb dX11_row_79 (by decide) ?_
        exact ih_57 (v4_57 + 1) M11 ls _ _ (lv_sub hl [1, 2, 3, 0] rfl) hw h
  refine lv_aload_n hx hb dX11_row_0 rfl (lv_at hl 0 rfl) ?_
  refine lv_iconst (v := 0) hx hb dX11_row_1 (by decide) ?_
  refine wputI C hw fpX11_77 (rfl : _ = some (0, 11)) dX11_row_2 (fun M1 eM1 H locs hw => ?_)
  replace h := letv_at eM1 h
  refine lv_iload_n hx hb dX11_row_5 rfl (lv_at hl 1 rfl) ?_
  refine wcallS1 (As := [.int p1]) (rest := []) C hw (c_X11_isSlot hW  rfl) slX11_86 ⟨Nat.le_of_ble_eq_true rfl, Nat.le_of_ble_eq_true rfl⟩ rfl rfl hl.1 (Nat.le_of_ble_eq_true rfl) dX11_row_6 ⟨Nat.zero_le _, Nat.zero_le _⟩ (fun H locs hw => ?_)
  refine lv_if_eq (tgt := 30) hx hb dX11_row_9 (by decide) (fun c2 => ?_) (fun c2 => ?_)
  · replace h := (if_pos c2).symm.trans h
    refine lv_bipush (v := (-2)) hx hb dX11_row_30 (by decide) ?_
    exact wretI_W C hw h dX11_row_32
  · replace h := (if_neg c2).symm.trans h
    refine lv_iload_n hx hb dX11_row_12 rfl (lv_at hl 2 rfl) ?_
    refine lv_i2l hx hb dX11_row_13 rfl ?_
    refine lv_lconst (v := 0) hx hb dX11_row_14 (by decide) ?_
    refine lv_ldc2 hx hb C.2.2.2.1 (C.2.2.2.2.1 _ (List.mem_cons_of_mem _ (gm kcX11_80 rfl))) dX11_row_15 ?_
    refine wcallS1 (As := [.long ((p2 : Int32).toInt64), .long 0, .long 3]) (rest := []) C hw (c_X11_in hW  rfl) slX11_82 ⟨Nat.le_of_ble_eq_true rfl, Nat.le_of_ble_eq_true rfl⟩ rfl rfl hl.1 (Nat.le_of_ble_eq_true rfl) dX11_row_18 ⟨Nat.zero_le _, Nat.zero_le _⟩ (fun H locs hw => ?_)
    refine lv_if_eq (tgt := 30) hx hb dX11_row_21 (by decide) (fun c3 => ?_) (fun c3 => ?_)
    · replace h := (if_pos c3).symm.trans h
      refine lv_bipush (v := (-2)) hx hb dX11_row_30 (by decide) ?_
      exact wretI_W C hw h dX11_row_32
    · replace h := (if_neg c3).symm.trans h
      refine lv_iload_n hx hb dX11_row_24 rfl (lv_at hl 3 rfl) ?_
      refine lv_bipush (v := 60) hx hb dX11_row_25 (by decide) ?_
      refine lv_icmp_le (tgt := 33) hx hb dX11_row_27 (by decide) (fun c4 => ?_) (fun c4 => ?_)
      · replace h := (if_pos c4).symm.trans h
        refine lv_iload_n hx hb dX11_row_33 rfl (lv_at hl 3 rfl) ?_
        refine lv_if_ge (tgt := 40) hx hb dX11_row_34 (by decide) (fun c5 => ?_) (fun c5 => ?_)
        · replace h := (if_pos c5).symm.trans h
          refine lv_aload_n hx hb dX11_row_40 rfl (lv_at hl 0 rfl) ?_
          refine wgetR (t := 1) C hw flX11_7 (rfl : _ = some (0, 11)) rfl dX11_row_41 ?_
          refine lv_iload_n hx hb dX11_row_44 rfl (lv_at hl 1 rfl) ?_
          refine lv_iload_n hx hb dX11_row_45 rfl (lv_at hl 2 rfl) ?_
          obtain ⟨g7, h⟩ := grd h
          refine wast C hw (rfl : _ = some (1, 4)) g7 dX11_row_46 (fun M6 eM6 H locs hw => ?_)
          replace h := letv_at eM6 h
          refine lv_aload_n hx hb dX11_row_47 rfl (lv_at hl 0 rfl) ?_
          refine wgetR (t := 2) C hw flX11_13 (rfl : _ = some (0, 11)) rfl dX11_row_48 ?_
          refine lv_iload_n hx hb dX11_row_51 rfl (lv_at hl 1 rfl) ?_
          refine lv_iload_n hx hb dX11_row_52 rfl (lv_at hl 3 rfl) ?_
          obtain ⟨g9, h⟩ := grd h
          refine wast C hw (rfl : _ = some (1, 4)) g9 dX11_row_53 (fun M8 eM8 H locs hw => ?_)
          replace h := letv_at eM8 h
          refine lv_iconst (v := 0) hx hb dX11_row_54 (by decide) ?_
          refine lv_istore (lv' := [(4, .int 0), (0, .ref (P.2.2.1 0)), (1, .int p1), (2, .int p2), (3, .int p3)]) hx hb dX11_row_55 hl (by decide) rfl (fun ls hl => ?_)
          exact cut_57 FU 0 M8 ls _ _ (lv_sub hl [1, 2, 4, 0] rfl) hw h
        · replace h := (if_neg c5).symm.trans h
          refine lv_bipush (v := (-3)) hx hb dX11_row_37 (by decide) ?_
          exact wretI_W C hw h dX11_row_39
      · replace h := (if_neg c4).symm.trans h
        refine lv_bipush (v := (-2)) hx hb dX11_row_30 (by decide) ?_
        exact wretI_W C hw h dX11_row_32
set_option maxRecDepth 100000 in
set_option maxHeartbeats 4000000 in
theorem c_X11_cut {l : Launch} {P : Wp} {E : State → Heap → Prop} (hW : Wok shR P E) {p0 : Int64} {p2 : Int32} {M : Mem} {r : Int64} (h : f_X11_cut p0 p2 M = r) : CT l shR P E yX11_cut bX11_cut 3 ((some .long)) 0 0 [.long p0, .int p2] (some (.long r)) M M := by
  refine ct_of hW (by decide) (Nat.le_of_ble_eq_true rfl) (fun p e s m args below meth c C ls hl hw => ?_)
  have hx := C.1
  have hb := C.2.1
  replace hl : lv_has ls 3 [(0, .long p0), (2, .int p2)] := hl
  refine lv_iload_n hx hb dX11_cut_0 rfl (lv_at hl 1 rfl) ?_
  refine lv_if_ne (tgt := 11) hx hb dX11_cut_1 (by decide) (fun c1 => ?_) (fun c1 => ?_)
  · replace h := (if_neg c1).symm.trans h
    refine lv_iload_n hx hb dX11_cut_11 rfl (lv_at hl 1 rfl) ?_
    refine lv_iconst (v := 1) hx hb dX11_cut_12 (by decide) ?_
    refine lv_icmp_ne (tgt := 23) hx hb dX11_cut_13 (by decide) (fun c2 => ?_) (fun c2 => ?_)
    · replace h := (if_neg c2).symm.trans h
      refine lv_iload_n hx hb dX11_cut_23 rfl (lv_at hl 1 rfl) ?_
      refine lv_iconst (v := 2) hx hb dX11_cut_24 (by decide) ?_
      refine lv_icmp_ne (tgt := 34) hx hb dX11_cut_25 (by decide) (fun c3 => ?_) (fun c3 => ?_)
      · replace h := (if_neg c3).symm.trans h
        refine lv_lload_n hx hb dX11_cut_34 rfl (lv_at hl 0 rfl) ?_
        exact wretJ_T C hw h dX11_cut_35
      · replace h := (if_pos c3).symm.trans h
        refine lv_lload_n hx hb dX11_cut_28 rfl (lv_at hl 0 rfl) ?_
        refine lv_l2i hx hb dX11_cut_29 rfl ?_
        refine lv_i2l hx hb dX11_cut_30 rfl ?_
        refine lv_goto (tgt := 35) hx hb dX11_cut_31 (by decide) ?_
        exact wretJ_T C hw h dX11_cut_35
    · replace h := (if_pos c2).symm.trans h
      refine lv_lload_n hx hb dX11_cut_16 rfl (lv_at hl 0 rfl) ?_
      refine lv_l2i hx hb dX11_cut_17 rfl ?_
      refine lv_i2s hx hb dX11_cut_18 rfl ?_
      refine lv_i2l hx hb dX11_cut_19 rfl ?_
      refine lv_goto (tgt := 35) hx hb dX11_cut_20 (by decide) ?_
      exact wretJ_T C hw h dX11_cut_35
  · replace h := (if_pos c1).symm.trans h
    refine lv_lload_n hx hb dX11_cut_4 rfl (lv_at hl 0 rfl) ?_
    refine lv_l2i hx hb dX11_cut_5 rfl ?_
    refine lv_i2b hx hb dX11_cut_6 rfl ?_
    refine lv_i2l hx hb dX11_cut_7 rfl ?_
    refine lv_goto (tgt := 35) hx hb dX11_cut_8 (by decide) ?_
    exact wretJ_T C hw h dX11_cut_35
set_option maxRecDepth 100000 in
set_option maxHeartbeats 4000000 in
theorem c_X11_write {l : Launch} {P : Wp} {E : State → Heap → Prop} (hW : Wok shR P E) {p1 : Int32} {p2 : Int32} {p3 : Int64} {M : Mem} {r : Int32} {M' : Mem} (h : f_X11_write p1 p2 p3 M = some (r, M')) : CT l shR P E yX11_write bX11_write 5 ((some .int)) 2 45 [.ref (P.2.2.1 0), .int p1, .int p2, .long p3] (some (.int r)) M M' := by
  refine ct_of hW (by decide) (Nat.le_of_ble_eq_true rfl) (fun p e s m args below meth c C ls hl hw => ?_)
  have hx := C.1
  have hb := C.2.1
  replace hl : lv_has ls 5 [(0, .ref (P.2.2.1 0)), (1, .int p1), (2, .int p2), (3, .long p3)] := hl
  refine lv_aload_n hx hb dX11_write_0 rfl (lv_at hl 0 rfl) ?_
  refine lv_iconst (v := 0) hx hb dX11_write_1 (by decide) ?_
  refine wputI C hw fpX11_77 (rfl : _ = some (0, 11)) dX11_write_2 (fun M1 eM1 H locs hw => ?_)
  replace h := letv_at eM1 h
  refine lv_iload_n hx hb dX11_write_5 rfl (lv_at hl 1 rfl) ?_
  refine wcallS1 (As := [.int p1]) (rest := []) C hw (c_X11_isSlot hW  rfl) slX11_86 ⟨Nat.le_of_ble_eq_true rfl, Nat.le_of_ble_eq_true rfl⟩ rfl rfl hl.1 (Nat.le_of_ble_eq_true rfl) dX11_write_6 ⟨Nat.zero_le _, Nat.zero_le _⟩ (fun H locs hw => ?_)
  refine lv_if_ne (tgt := 15) hx hb dX11_write_9 (by decide) (fun c2 => ?_) (fun c2 => ?_)
  · replace h := (if_neg c2).symm.trans h
    refine lv_aload_n hx hb dX11_write_15 rfl (lv_at hl 0 rfl) ?_
    refine wgetR (t := 1) C hw flX11_7 (rfl : _ = some (0, 11)) rfl dX11_write_16 ?_
    refine lv_iload_n hx hb dX11_write_19 rfl (lv_at hl 1 rfl) ?_
    obtain ⟨g3, h⟩ := grd h
    refine wald C hw (rfl : _ = some (1, 4)) g3 dX11_write_20 ?_
    refine lv_iconst (v := (-1)) hx hb dX11_write_21 (by decide) ?_
    refine lv_icmp_ne (tgt := 28) hx hb dX11_write_22 (by decide) (fun c4 => ?_) (fun c4 => ?_)
    · replace h := (if_neg c4).symm.trans h
      refine lv_iload_n hx hb dX11_write_28 rfl (lv_at hl 2 rfl) ?_
      refine lv_i2l hx hb dX11_write_29 rfl ?_
      refine lv_lconst (v := 0) hx hb dX11_write_30 (by decide) ?_
      refine lv_aload_n hx hb dX11_write_31 rfl (lv_at hl 0 rfl) ?_
      refine wgetR (t := 2) C hw flX11_13 (rfl : _ = some (0, 11)) rfl dX11_write_32 ?_
      refine lv_iload_n hx hb dX11_write_35 rfl (lv_at hl 1 rfl) ?_
      obtain ⟨g5, h⟩ := grd h
      refine wald C hw (rfl : _ = some (1, 4)) g5 dX11_write_36 ?_
      refine lv_iconst (v := 1) hx hb dX11_write_37 (by decide) ?_
      refine lv_isub hx hb dX11_write_38 ?_
      refine lv_i2l hx hb dX11_write_39 rfl ?_
      refine wcallS1 (As := [.long ((p2 : Int32).toInt64), .long 0, .long ((((M1.1 2 (ix p1)) - (1 : Int32)) : Int32).toInt64)]) (rest := []) C hw (c_X11_in hW  rfl) slX11_82 ⟨Nat.le_of_ble_eq_true rfl, Nat.le_of_ble_eq_true rfl⟩ rfl rfl hl.1 (Nat.le_of_ble_eq_true rfl) dX11_write_40 ⟨Nat.zero_le _, Nat.zero_le _⟩ (fun H locs hw => ?_)
      refine lv_if_ne (tgt := 49) hx hb dX11_write_43 (by decide) (fun c6 => ?_) (fun c6 => ?_)
      · replace h := (if_neg c6).symm.trans h
        refine lv_aload_n hx hb dX11_write_49 rfl (lv_at hl 0 rfl) ?_
        refine wgetR (t := 3) C hw flX11_16 (rfl : _ = some (0, 11)) rfl dX11_write_50 ?_
        refine lv_bipush (v := 60) hx hb dX11_write_53 (by decide) ?_
        refine lv_iload_n hx hb dX11_write_55 rfl (lv_at hl 1 rfl) ?_
        refine lv_imul hx hb dX11_write_56 ?_
        refine lv_iload_n hx hb dX11_write_57 rfl (lv_at hl 2 rfl) ?_
        refine lv_iadd hx hb dX11_write_58 ?_
        refine lv_lload_n hx hb dX11_write_59 rfl (lv_at hl 3 rfl) ?_
        refine lv_aload_n hx hb dX11_write_60 rfl (lv_at hl 0 rfl) ?_
        refine wgetR (t := 1) C hw flX11_7 (rfl : _ = some (0, 11)) rfl dX11_write_61 ?_
        refine lv_iload_n hx hb dX11_write_64 rfl (lv_at hl 1 rfl) ?_
        obtain ⟨g7, h⟩ := grd h
        refine wald C hw (rfl : _ = some (1, 4)) g7 dX11_write_65 ?_
        refine wcallS1 (As := [.long p3, .int (M1.1 1 (ix p1))]) (rest := [.int (((60 : Int32) * p1) + p2), .ref (P.2.2.1 3)]) C hw (c_X11_cut hW  rfl) slX11_90 ⟨Nat.le_of_ble_eq_true rfl, Nat.le_of_ble_eq_true rfl⟩ rfl rfl hl.1 (Nat.le_of_ble_eq_true rfl) dX11_write_66 ⟨Nat.zero_le _, Nat.zero_le _⟩ (fun H locs hw => ?_)
        obtain ⟨g9, h⟩ := grd h
        refine wlast C hw (rfl : _ = some (4, 240)) g9 dX11_write_69 (fun M8 eM8 H locs hw => ?_)
        replace h := letv_at eM8 h
        refine lv_iconst (v := 0) hx hb dX11_write_70 (by decide) ?_
        exact wretI_W C hw h dX11_write_71
      · replace h := (if_pos c6).symm.trans h
        refine lv_bipush (v := (-7)) hx hb dX11_write_46 (by decide) ?_
        exact wretI_W C hw h dX11_write_48
    · replace h := (if_pos c4).symm.trans h
      refine lv_bipush (v := (-6)) hx hb dX11_write_25 (by decide) ?_
      exact wretI_W C hw h dX11_write_27
  · replace h := (if_pos c2).symm.trans h
    refine lv_bipush (v := (-2)) hx hb dX11_write_12 (by decide) ?_
    exact wretI_W C hw h dX11_write_14
set_option maxRecDepth 100000 in
set_option maxHeartbeats 4000000 in
theorem c_X11_paste {l : Launch} {P : Wp} {E : State → Heap → Prop} (hW : Wok shR P E) {p1 : Int32} {p2 : Int32} {p3 : Int32} {p4 : Int32} {p5 : Int32} {M : Mem} {r : Int32} {M' : Mem} (h : f_X11_paste p1 p2 p3 p4 p5 M = some (r, M')) : CT l shR P E yX11_paste bX11_paste 7 ((some .int)) 2 45 [.ref (P.2.2.1 0), .int p1, .int p2, .int p3, .int p4, .int p5] (some (.int r)) M M' := by
  refine ct_of hW (by decide) (Nat.le_of_ble_eq_true rfl) (fun p e s m args below meth c C ls hl hw => ?_)
  have hx := C.1
  have hb := C.2.1
  replace hl : lv_has ls 7 [(0, .ref (P.2.2.1 0)), (1, .int p1), (2, .int p2), (3, .int p3), (4, .int p4), (5, .int p5)] := hl
  have cut_155 : ∀ (n_155 : Nat) (v6_155 : Int32) (M_155 : Mem) (ls : Array Slot) (H : Heap) (locs : List Loc), lv_has ls 7 [(0, .ref (P.2.2.1 0)), (3, .int p3), (4, .int p4), (5, .int p5), (6, .int v6_155)] → Hw shR P M_155 s H locs → lq2 (L_X11_paste_155 p1 p2 p3 p4 p5) n_155 v6_155 M_155 = some (r, M') → W p l e { frames := 2, cells := 0, slots := 0, locals := 45 } s m args below meth c H locs 0 0 (MQ below (CQ shR P E (some (.int r)) M') args s 0 0 (wA shR P)) (F0 m 155 ls []) := by
    intro n_155
    induction n_155 with
    | zero => intro v6_155 M_155 ls H locs hl hw h; cases h
    | succ n_155 ih_155 =>
      intro v6_155 M_155 ls H locs hl hw h
      replace h := lq2_succ h
      refine lv_iload hx hb dX11_paste_155 (lv_at hl 4 rfl) ?_
      refine lv_iload hx hb dX11_paste_157 (lv_at hl 3 rfl) ?_
      refine lv_icmp_ge (tgt := 190) hx hb dX11_paste_159 (by decide) (fun c19 => ?_) (fun c19 => ?_)
      · replace h := (if_pos c19).symm.trans h
        refine lv_iconst (v := 0) hx hb dX11_paste_190 (by decide) ?_
        exact wretI_W C hw h dX11_paste_191
      · replace h := (if_neg c19).symm.trans h
        refine lv_aload_n hx hb dX11_paste_162 rfl (lv_at hl 0 rfl) ?_
        refine wgetR (t := 3) C hw flX11_16 (rfl : _ = some (0, 11)) rfl dX11_paste_163 ?_
        refine lv_bipush (v := 60) hx hb dX11_paste_166 (by decide) ?_
        refine lv_iload_n hx hb dX11_paste_168 rfl (lv_at hl 1 rfl) ?_
        refine lv_imul hx hb dX11_paste_169 ?_
        refine lv_iload hx hb dX11_paste_170 (lv_at hl 2 rfl) ?_
        refine lv_iadd hx hb dX11_paste_172 ?_
        refine lv_iload hx hb dX11_paste_173 (lv_at hl 4 rfl) ?_
        refine lv_iadd hx hb dX11_paste_175 ?_
        refine lv_aload_n hx hb dX11_paste_176 rfl (lv_at hl 0 rfl) ?_
        refine wgetR (t := 4) C hw flX11_20 (rfl : _ = some (0, 11)) rfl dX11_paste_177 ?_
        refine lv_iload hx hb dX11_paste_180 (lv_at hl 4 rfl) ?_
        obtain ⟨g20, h⟩ := grd h
        refine wlald C hw (rfl : _ = some (4, 60)) g20 dX11_paste_182 ?_
        obtain ⟨g22, h⟩ := grd h
        refine wlast C hw (rfl : _ = some (4, 240)) g22 dX11_paste_183 (fun M21 eM21 H locs hw => ?_)
        replace h := letv_at eM21 h
        refine lv_iinc (v := (v6_155 + 1)) (lv' := [(6, .int (v6_155 + 1)), (0, .ref (P.2.2.1 0)), (3, .int p3), (4, .int p4), (5, .int p5)]) (k := 4) hx hb dX11_paste_184 hl rfl (congrArg (fun z => v6_155 + z) (by decide)) (by decide) rfl (fun ls hl => ?_)
        refine lv_goto (tgt := 155) hx hb dX11_paste_187 (by decide) ?_
        exact ih_155 (v6_155 + 1) M21 ls _ _ (lv_sub hl [1, 2, 3, 4, 0] rfl) hw h
  have cut_118 : ∀ (n_118 : Nat) (v6_118 : Int32) (M_118 : Mem) (ls : Array Slot) (H : Heap) (locs : List Loc), lv_has ls 7 [(0, .ref (P.2.2.1 0)), (1, .int p1), (2, .int p2), (3, .int p3), (4, .int p4), (5, .int p5), (6, .int v6_118)] → Hw shR P M_118 s H locs → lq2 (L_X11_paste_118 p1 p2 p3 p4 p5) n_118 v6_118 M_118 = some (r, M') → W p l e { frames := 2, cells := 0, slots := 0, locals := 45 } s m args below meth c H locs 0 0 (MQ below (CQ shR P E (some (.int r)) M') args s 0 0 (wA shR P)) (F0 m 118 ls []) := by
    intro n_118
    induction n_118 with
    | zero => intro v6_118 M_118 ls H locs hl hw h; cases h
    | succ n_118 ih_118 =>
      intro v6_118 M_118 ls H locs hl hw h
      replace h := lq2_succ h
      refine lv_iload hx hb dX11_paste_118 (lv_at hl 6 rfl) ?_
      refine lv_iload hx hb dX11_paste_120 (lv_at hl 5 rfl) ?_
      refine lv_icmp_ge (tgt := 152) hx hb dX11_paste_122 (by decide) (fun c18 => ?_) (fun c18 => ?_)
      · replace h := (if_pos c18).symm.trans h
        refine lv_iconst (v := 0) hx hb dX11_paste_152 (by decide) ?_
        refine lv_istore (lv' := [(6, .int 0), (0, .ref (P.2.2.1 0)), (1, .int p1), (2, .int p2), (3, .int p3), (4, .int p4), (5, .int p5)]) hx hb dX11_paste_153 hl (by decide) rfl (fun ls hl => ?_)
        exact cut_155 FU 0 M_118 ls _ _ (lv_sub hl [1, 4, 5, 6, 0] rfl) hw h
      · replace h := (if_neg c18).symm.trans h
        refine lv_aload_n hx hb dX11_paste_125 rfl (lv_at hl 0 rfl) ?_
        refine wgetR (t := 4) C hw flX11_20 (rfl : _ = some (0, 11)) rfl dX11_paste_126 ?_
        refine lv_iload hx hb dX11_paste_129 (lv_at hl 6 rfl) ?_
        refine lv_aload_n hx hb dX11_paste_131 rfl (lv_at hl 0 rfl) ?_
        refine wgetR (t := 3) C hw flX11_16 (rfl : _ = some (0, 11)) rfl dX11_paste_132 ?_
        refine lv_bipush (v := 60) hx hb dX11_paste_135 (by decide) ?_
        refine lv_iload_n hx hb dX11_paste_137 rfl (lv_at hl 1 rfl) ?_
        refine lv_imul hx hb dX11_paste_138 ?_
        refine lv_iload_n hx hb dX11_paste_139 rfl (lv_at hl 2 rfl) ?_
        refine lv_iadd hx hb dX11_paste_140 ?_
        refine lv_iload hx hb dX11_paste_141 (lv_at hl 6 rfl) ?_
        refine lv_iadd hx hb dX11_paste_143 ?_
        obtain ⟨g23, h⟩ := grd h
        refine wlald C hw (rfl : _ = some (4, 240)) g23 dX11_paste_144 ?_
        obtain ⟨g25, h⟩ := grd h
        refine wlast C hw (rfl : _ = some (4, 60)) g25 dX11_paste_145 (fun M24 eM24 H locs hw => ?_)
        replace h := letv_at eM24 h
        refine lv_iinc (v := (v6_118 + 1)) (lv' := [(6, .int (v6_118 + 1)), (0, .ref (P.2.2.1 0)), (1, .int p1), (2, .int p2), (3, .int p3), (4, .int p4), (5, .int p5)]) (k := 6) hx hb dX11_paste_146 hl rfl (congrArg (fun z => v6_118 + z) (by decide)) (by decide) rfl (fun ls hl => ?_)
        refine lv_goto (tgt := 118) hx hb dX11_paste_149 (by decide) ?_
        exact ih_118 (v6_118 + 1) M24 ls _ _ (lv_sub hl [1, 2, 3, 4, 5, 6, 0] rfl) hw h
  refine lv_aload_n hx hb dX11_paste_0 rfl (lv_at hl 0 rfl) ?_
  refine lv_iconst (v := 0) hx hb dX11_paste_1 (by decide) ?_
  refine wputI C hw fpX11_77 (rfl : _ = some (0, 11)) dX11_paste_2 (fun M1 eM1 H locs hw => ?_)
  replace h := letv_at eM1 h
  refine lv_iload_n hx hb dX11_paste_5 rfl (lv_at hl 1 rfl) ?_
  refine wcallS1 (As := [.int p1]) (rest := []) C hw (c_X11_isSlot hW  rfl) slX11_86 ⟨Nat.le_of_ble_eq_true rfl, Nat.le_of_ble_eq_true rfl⟩ rfl rfl hl.1 (Nat.le_of_ble_eq_true rfl) dX11_paste_6 ⟨Nat.zero_le _, Nat.zero_le _⟩ (fun H locs hw => ?_)
  refine lv_if_eq (tgt := 19) hx hb dX11_paste_9 (by decide) (fun c2 => ?_) (fun c2 => ?_)
  · replace h := (if_pos c2).symm.trans h
    refine lv_bipush (v := (-2)) hx hb dX11_paste_19 (by decide) ?_
    exact wretI_W C hw h dX11_paste_21
  · replace h := (if_neg c2).symm.trans h
    refine lv_iload_n hx hb dX11_paste_12 rfl (lv_at hl 3 rfl) ?_
    refine wcallS1 (As := [.int p3]) (rest := []) C hw (c_X11_isSlot hW  rfl) slX11_86 ⟨Nat.le_of_ble_eq_true rfl, Nat.le_of_ble_eq_true rfl⟩ rfl rfl hl.1 (Nat.le_of_ble_eq_true rfl) dX11_paste_13 ⟨Nat.zero_le _, Nat.zero_le _⟩ (fun H locs hw => ?_)
    refine lv_if_ne (tgt := 22) hx hb dX11_paste_16 (by decide) (fun c3 => ?_) (fun c3 => ?_)
    · replace h := (if_neg c3).symm.trans h
      refine lv_aload_n hx hb dX11_paste_22 rfl (lv_at hl 0 rfl) ?_
      refine wgetR (t := 1) C hw flX11_7 (rfl : _ = some (0, 11)) rfl dX11_paste_23 ?_
      refine lv_iload_n hx hb dX11_paste_26 rfl (lv_at hl 1 rfl) ?_
      obtain ⟨g4, h⟩ := grd h
      refine wald C hw (rfl : _ = some (1, 4)) g4 dX11_paste_27 ?_
      refine lv_iconst (v := (-1)) hx hb dX11_paste_28 (by decide) ?_
      refine lv_icmp_eq (tgt := 42) hx hb dX11_paste_29 (by decide) (fun c5 => ?_) (fun c5 => ?_)
      · replace h := (if_pos c5).symm.trans h
        refine lv_bipush (v := (-6)) hx hb dX11_paste_42 (by decide) ?_
        exact wretI_W C hw h dX11_paste_44
      · replace h := (if_neg c5).symm.trans h
        refine lv_aload_n hx hb dX11_paste_32 rfl (lv_at hl 0 rfl) ?_
        refine wgetR (t := 1) C hw flX11_7 (rfl : _ = some (0, 11)) rfl dX11_paste_33 ?_
        refine lv_iload_n hx hb dX11_paste_36 rfl (lv_at hl 3 rfl) ?_
        obtain ⟨g6, h⟩ := grd h
        refine wald C hw (rfl : _ = some (1, 4)) g6 dX11_paste_37 ?_
        refine lv_iconst (v := (-1)) hx hb dX11_paste_38 (by decide) ?_
        refine lv_icmp_ne (tgt := 45) hx hb dX11_paste_39 (by decide) (fun c7 => ?_) (fun c7 => ?_)
        · replace h := (if_neg c7).symm.trans h
          refine lv_aload_n hx hb dX11_paste_45 rfl (lv_at hl 0 rfl) ?_
          refine wgetR (t := 1) C hw flX11_7 (rfl : _ = some (0, 11)) rfl dX11_paste_46 ?_
          refine lv_iload_n hx hb dX11_paste_49 rfl (lv_at hl 1 rfl) ?_
          obtain ⟨g8, h⟩ := grd h
          refine wald C hw (rfl : _ = some (1, 4)) g8 dX11_paste_50 ?_
          refine lv_aload_n hx hb dX11_paste_51 rfl (lv_at hl 0 rfl) ?_
          refine wgetR (t := 1) C hw flX11_7 (rfl : _ = some (0, 11)) rfl dX11_paste_52 ?_
          refine lv_iload_n hx hb dX11_paste_55 rfl (lv_at hl 3 rfl) ?_
          obtain ⟨g9, h⟩ := grd h
          refine wald C hw (rfl : _ = some (1, 4)) g9 dX11_paste_56 ?_
          refine lv_icmp_eq (tgt := 63) hx hb dX11_paste_57 (by decide) (fun c10 => ?_) (fun c10 => ?_)
          · replace h := (if_pos c10).symm.trans h
            refine lv_iload_n hx hb dX11_paste_63 rfl (lv_at hl 2 rfl) ?_
            refine lv_if_lt (tgt := 112) hx hb dX11_paste_64 (by decide) (fun c11 => ?_) (fun c11 => ?_)
            · replace h := (if_pos c11).symm.trans h
              refine lv_bipush (v := (-7)) hx hb dX11_paste_112 (by decide) ?_
              exact wretI_W C hw h dX11_paste_114
            · replace h := (if_neg c11).symm.trans h
              refine lv_iload hx hb dX11_paste_67 (lv_at hl 4 rfl) ?_
              refine lv_if_lt (tgt := 112) hx hb dX11_paste_69 (by decide) (fun c12 => ?_) (fun c12 => ?_)
              · replace h := (if_pos c12).symm.trans h
                refine lv_bipush (v := (-7)) hx hb dX11_paste_112 (by decide) ?_
                exact wretI_W C hw h dX11_paste_114
              · replace h := (if_neg c12).symm.trans h
                refine lv_iload hx hb dX11_paste_72 (lv_at hl 5 rfl) ?_
                refine lv_if_lt (tgt := 112) hx hb dX11_paste_74 (by decide) (fun c13 => ?_) (fun c13 => ?_)
                · replace h := (if_pos c13).symm.trans h
                  refine lv_bipush (v := (-7)) hx hb dX11_paste_112 (by decide) ?_
                  exact wretI_W C hw h dX11_paste_114
                · replace h := (if_neg c13).symm.trans h
                  refine lv_iload_n hx hb dX11_paste_77 rfl (lv_at hl 2 rfl) ?_
                  refine lv_i2l hx hb dX11_paste_78 rfl ?_
                  refine lv_iload hx hb dX11_paste_79 (lv_at hl 5 rfl) ?_
                  refine lv_i2l hx hb dX11_paste_81 rfl ?_
                  refine lv_ladd hx hb dX11_paste_82 ?_
                  refine lv_aload_n hx hb dX11_paste_83 rfl (lv_at hl 0 rfl) ?_
                  refine wgetR (t := 2) C hw flX11_13 (rfl : _ = some (0, 11)) rfl dX11_paste_84 ?_
                  refine lv_iload_n hx hb dX11_paste_87 rfl (lv_at hl 1 rfl) ?_
                  obtain ⟨g14, h⟩ := grd h
                  refine wald C hw (rfl : _ = some (1, 4)) g14 dX11_paste_88 ?_
                  refine lv_i2l hx hb dX11_paste_89 rfl ?_
                  refine W.lcmp hx hb dX11_paste_90 ?_
                  refine lv_if_gt (tgt := 112) hx hb dX11_paste_91 (by decide) (fun c15 => ?_) (fun c15 => ?_)
                  · replace h := (if_pos c15).symm.trans h
                    refine lv_bipush (v := (-7)) hx hb dX11_paste_112 (by decide) ?_
                    exact wretI_W C hw h dX11_paste_114
                  · replace h := (if_neg c15).symm.trans h
                    refine lv_iload hx hb dX11_paste_94 (lv_at hl 4 rfl) ?_
                    refine lv_i2l hx hb dX11_paste_96 rfl ?_
                    refine lv_iload hx hb dX11_paste_97 (lv_at hl 5 rfl) ?_
                    refine lv_i2l hx hb dX11_paste_99 rfl ?_
                    refine lv_ladd hx hb dX11_paste_100 ?_
                    refine lv_aload_n hx hb dX11_paste_101 rfl (lv_at hl 0 rfl) ?_
                    refine wgetR (t := 2) C hw flX11_13 (rfl : _ = some (0, 11)) rfl dX11_paste_102 ?_
                    refine lv_iload_n hx hb dX11_paste_105 rfl (lv_at hl 3 rfl) ?_
                    obtain ⟨g16, h⟩ := grd h
                    refine wald C hw (rfl : _ = some (1, 4)) g16 dX11_paste_106 ?_
                    refine lv_i2l hx hb dX11_paste_107 rfl ?_
                    refine W.lcmp hx hb dX11_paste_108 ?_
                    refine lv_if_le (tgt := 115) hx hb dX11_paste_109 (by decide) (fun c17 => ?_) (fun c17 => ?_)
                    · replace h := (if_pos c17).symm.trans h
                      refine lv_iconst (v := 0) hx hb dX11_paste_115 (by decide) ?_
                      refine lv_istore (lv' := [(6, .int 0), (0, .ref (P.2.2.1 0)), (1, .int p1), (2, .int p2), (3, .int p3), (4, .int p4), (5, .int p5)]) hx hb dX11_paste_116 hl (by decide) rfl (fun ls hl => ?_)
                      exact cut_118 FU 0 M1 ls _ _ (lv_sub hl [1, 2, 3, 4, 5, 6, 0] rfl) hw h
                    · replace h := (if_neg c17).symm.trans h
                      refine lv_bipush (v := (-7)) hx hb dX11_paste_112 (by decide) ?_
                      exact wretI_W C hw h dX11_paste_114
          · replace h := (if_neg c10).symm.trans h
            refine lv_bipush (v := (-8)) hx hb dX11_paste_60 (by decide) ?_
            exact wretI_W C hw h dX11_paste_62
        · replace h := (if_pos c7).symm.trans h
          refine lv_bipush (v := (-6)) hx hb dX11_paste_42 (by decide) ?_
          exact wretI_W C hw h dX11_paste_44
    · replace h := (if_pos c3).symm.trans h
      refine lv_bipush (v := (-2)) hx hb dX11_paste_19 (by decide) ?_
      exact wretI_W C hw h dX11_paste_21
set_option maxRecDepth 100000 in
set_option maxHeartbeats 4000000 in
theorem c_X11_four {l : Launch} {P : Wp} {E : State → Heap → Prop} (hW : Wok shR P E) {p1 : Int32} {M : Mem} {M' : Mem} (h : f_X11_four p1 M = some M') : CT l shR P E yX11_four bX11_four 3 (none) 0 0 [.ref (P.2.2.1 0), .int p1] none M M' := by
  refine ct_of hW (by decide) (Nat.le_of_ble_eq_true rfl) (fun p e s m args below meth c C ls hl hw => ?_)
  have hx := C.1
  have hb := C.2.1
  replace hl : lv_has ls 3 [(0, .ref (P.2.2.1 0)), (1, .int p1)] := hl
  have cut_3 : ∀ (n_3 : Nat) (v2_3 : Int32) (M_3 : Mem) (ls : Array Slot) (H : Heap) (locs : List Loc), lv_has ls 3 [(0, .ref (P.2.2.1 0)), (1, .int p1), (2, .int v2_3)] → Hw shR P M_3 s H locs → lq2 (L_X11_four_3 p1) n_3 v2_3 M_3 = some M' → W p l e { frames := 0, cells := 0, slots := 0, locals := 0 } s m args below meth c H locs 0 0 (MQ below (CQ shR P E none M') args s 0 0 (wA shR P)) (F0 m 3 ls []) := by
    intro n_3
    induction n_3 with
    | zero => intro v2_3 M_3 ls H locs hl hw h; cases h
    | succ n_3 ih_3 =>
      intro v2_3 M_3 ls H locs hl hw h
      replace h := lq2_succ h
      refine lv_iload_n hx hb dX11_four_3 rfl (lv_at hl 2 rfl) ?_
      refine lv_if_lt (tgt := 36) hx hb dX11_four_4 (by decide) (fun c1 => ?_) (fun c1 => ?_)
      · replace h := (if_pos c1).symm.trans h
        exact wretV_W C hw h dX11_four_36
      · replace h := (if_neg c1).symm.trans h
        refine lv_aload_n hx hb dX11_four_7 rfl (lv_at hl 0 rfl) ?_
        refine wgetR (t := 5) C hw flX11_23 (rfl : _ = some (0, 11)) rfl dX11_four_8 ?_
        refine lv_aload_n hx hb dX11_four_11 rfl (lv_at hl 0 rfl) ?_
        refine wgetI C hw flX11_94 (rfl : _ = some (0, 11)) dX11_four_12 ?_
        refine lv_iload_n hx hb dX11_four_15 rfl (lv_at hl 1 rfl) ?_
        refine lv_iload_n hx hb dX11_four_16 rfl (lv_at hl 2 rfl) ?_
        refine lv_ishr hx hb dX11_four_17 ?_
        refine lv_i2b hx hb dX11_four_18 rfl ?_
        obtain ⟨g3, h⟩ := grd h
        refine wbast C hw (rfl : _ = some (2, 600)) g3 dX11_four_19 (fun M2 eM2 H locs hw => ?_)
        replace h := letv_at eM2 h
        refine lv_aload_n hx hb dX11_four_20 rfl (lv_at hl 0 rfl) ?_
        refine lv_dup hx hb dX11_four_21 rfl ?_
        refine wgetI C hw flX11_94 (rfl : _ = some (0, 11)) dX11_four_22 ?_
        refine lv_iconst (v := 1) hx hb dX11_four_25 (by decide) ?_
        refine lv_iadd hx hb dX11_four_26 ?_
        refine wputI C hw fpX11_94 (rfl : _ = some (0, 11)) dX11_four_27 (fun M4 eM4 H locs hw => ?_)
        replace h := letv_at eM4 h
        refine lv_iinc (v := (v2_3 + (-8))) (lv' := [(2, .int (v2_3 + (-8))), (0, .ref (P.2.2.1 0)), (1, .int p1)]) (k := 2) hx hb dX11_four_30 hl rfl (congrArg (fun z => v2_3 + z) (by decide)) (by decide) rfl (fun ls hl => ?_)
        refine lv_goto (tgt := 3) hx hb dX11_four_33 (by decide) ?_
        exact ih_3 (v2_3 + (-8)) M4 ls _ _ (lv_sub hl [1, 2, 0] rfl) hw h
  refine lv_bipush (v := 24) hx hb dX11_four_0 (by decide) ?_
  refine lv_istore_n (lv' := [(2, .int 24), (0, .ref (P.2.2.1 0)), (1, .int p1)]) hx hb dX11_four_2 rfl hl (by decide) rfl (fun ls hl => ?_)
  exact cut_3 FU 24 M ls _ _ (lv_sub hl [1, 2, 0] rfl) hw h
set_option maxRecDepth 100000 in
set_option maxHeartbeats 4000000 in
theorem c_X11_feed {l : Launch} {P : Wp} {E : State → Heap → Prop} (hW : Wok shR P E) {p1 : Int32} {p2 : Int32} {p3 : Int32} {p4 : Int32} {p5 : Int32} {M : Mem} {r : Int32} {M' : Mem} (h : f_X11_feed p1 p2 p3 p4 p5 M = some (r, M')) : CT l shR P E yX11_feed bX11_feed 6 ((some .int)) 1 22 [.ref (P.2.2.1 0), .int p1, .int p2, .int p3, .int p4, .int p5] (some (.int r)) M M' := by
  refine ct_of hW (by decide) (Nat.le_of_ble_eq_true rfl) (fun p e s m args below meth c C ls hl hw => ?_)
  have hx := C.1
  have hb := C.2.1
  replace hl : lv_has ls 6 [(0, .ref (P.2.2.1 0)), (1, .int p1), (2, .int p2), (3, .int p3), (4, .int p4), (5, .int p5)] := hl
  refine lv_aload_n hx hb dX11_feed_0 rfl (lv_at hl 0 rfl) ?_
  refine lv_iconst (v := 0) hx hb dX11_feed_1 (by decide) ?_
  refine wputI C hw fpX11_77 (rfl : _ = some (0, 11)) dX11_feed_2 (fun M1 eM1 H locs hw => ?_)
  replace h := letv_at eM1 h
  refine lv_aload_n hx hb dX11_feed_5 rfl (lv_at hl 0 rfl) ?_
  refine wgetI C hw flX11_94 (rfl : _ = some (0, 11)) dX11_feed_6 ?_
  refine lv_bipush (v := 20) hx hb dX11_feed_9 (by decide) ?_
  refine lv_iadd hx hb dX11_feed_11 ?_
  refine lv_sipush (v := 600) hx hb dX11_feed_12 (by decide) ?_
  refine lv_icmp_le (tgt := 20) hx hb dX11_feed_15 (by decide) (fun c2 => ?_) (fun c2 => ?_)
  · replace h := (if_pos c2).symm.trans h
    refine lv_aload_n hx hb dX11_feed_20 rfl (lv_at hl 0 rfl) ?_
    refine lv_iload_n hx hb dX11_feed_21 rfl (lv_at hl 1 rfl) ?_
    obtain ⟨M5, e4, h⟩ := bnd_some h
    refine wcallV0 (As := [.int p1]) (rest := []) C hw (c_X11_four hW  e4) vlX11_97 ⟨Nat.le_of_ble_eq_true rfl, Nat.le_of_ble_eq_true rfl⟩ (rfl : _ = some (0, 11)) rfl rfl rfl hl.1 (Nat.le_of_ble_eq_true rfl) dX11_feed_22 ⟨Nat.zero_le _, Nat.zero_le _⟩ (fun H locs hw => ?_)
    refine lv_aload_n hx hb dX11_feed_25 rfl (lv_at hl 0 rfl) ?_
    refine lv_iload_n hx hb dX11_feed_26 rfl (lv_at hl 2 rfl) ?_
    obtain ⟨M8, e7, h⟩ := bnd_some h
    refine wcallV0 (As := [.int p2]) (rest := []) C hw (c_X11_four hW  e7) vlX11_97 ⟨Nat.le_of_ble_eq_true rfl, Nat.le_of_ble_eq_true rfl⟩ (rfl : _ = some (0, 11)) rfl rfl rfl hl.1 (Nat.le_of_ble_eq_true rfl) dX11_feed_27 ⟨Nat.zero_le _, Nat.zero_le _⟩ (fun H locs hw => ?_)
    refine lv_aload_n hx hb dX11_feed_30 rfl (lv_at hl 0 rfl) ?_
    refine lv_iload_n hx hb dX11_feed_31 rfl (lv_at hl 3 rfl) ?_
    obtain ⟨M11, e10, h⟩ := bnd_some h
    refine wcallV0 (As := [.int p3]) (rest := []) C hw (c_X11_four hW  e10) vlX11_97 ⟨Nat.le_of_ble_eq_true rfl, Nat.le_of_ble_eq_true rfl⟩ (rfl : _ = some (0, 11)) rfl rfl rfl hl.1 (Nat.le_of_ble_eq_true rfl) dX11_feed_32 ⟨Nat.zero_le _, Nat.zero_le _⟩ (fun H locs hw => ?_)
    refine lv_aload_n hx hb dX11_feed_35 rfl (lv_at hl 0 rfl) ?_
    refine lv_iload hx hb dX11_feed_36 (lv_at hl 4 rfl) ?_
    obtain ⟨M14, e13, h⟩ := bnd_some h
    refine wcallV0 (As := [.int p4]) (rest := []) C hw (c_X11_four hW  e13) vlX11_97 ⟨Nat.le_of_ble_eq_true rfl, Nat.le_of_ble_eq_true rfl⟩ (rfl : _ = some (0, 11)) rfl rfl rfl hl.1 (Nat.le_of_ble_eq_true rfl) dX11_feed_38 ⟨Nat.zero_le _, Nat.zero_le _⟩ (fun H locs hw => ?_)
    refine lv_aload_n hx hb dX11_feed_41 rfl (lv_at hl 0 rfl) ?_
    refine lv_iload hx hb dX11_feed_42 (lv_at hl 5 rfl) ?_
    obtain ⟨M17, e16, h⟩ := bnd_some h
    refine wcallV0 (As := [.int p5]) (rest := []) C hw (c_X11_four hW  e16) vlX11_97 ⟨Nat.le_of_ble_eq_true rfl, Nat.le_of_ble_eq_true rfl⟩ (rfl : _ = some (0, 11)) rfl rfl rfl hl.1 (Nat.le_of_ble_eq_true rfl) dX11_feed_44 ⟨Nat.zero_le _, Nat.zero_le _⟩ (fun H locs hw => ?_)
    refine lv_aload_n hx hb dX11_feed_47 rfl (lv_at hl 0 rfl) ?_
    refine wgetI C hw flX11_94 (rfl : _ = some (0, 11)) dX11_feed_48 ?_
    exact wretI_W C hw h dX11_feed_51
  · replace h := (if_neg c2).symm.trans h
    refine lv_iconst (v := (-1)) hx hb dX11_feed_18 (by decide) ?_
    exact wretI_W C hw h dX11_feed_19
set_option maxRecDepth 100000 in
set_option maxHeartbeats 4000000 in
theorem c_X11_end {l : Launch} {P : Wp} {E : State → Heap → Prop} (hW : Wok shR P E) {p1 : Int32} {M : Mem} {r : Int32} {M' : Mem} (h : f_X11_end p1 M = some (r, M')) : CT l shR P E yX11_end bX11_end 2 ((some .int)) 1 25 [.ref (P.2.2.1 0), .int p1] (some (.int r)) M M' := by
  refine ct_of hW (by decide) (Nat.le_of_ble_eq_true rfl) (fun p e s m args below meth c C ls hl hw => ?_)
  have hx := C.1
  have hb := C.2.1
  replace hl : lv_has ls 2 [(0, .ref (P.2.2.1 0)), (1, .int p1)] := hl
  refine lv_aload_n hx hb dX11_end_0 rfl (lv_at hl 0 rfl) ?_
  refine lv_iconst (v := 0) hx hb dX11_end_1 (by decide) ?_
  refine wputI C hw fpX11_77 (rfl : _ = some (0, 11)) dX11_end_2 (fun M1 eM1 H locs hw => ?_)
  replace h := letv_at eM1 h
  refine lv_iload_n hx hb dX11_end_5 rfl (lv_at hl 1 rfl) ?_
  refine lv_i2l hx hb dX11_end_6 rfl ?_
  refine lv_lconst (v := 0) hx hb dX11_end_7 (by decide) ?_
  refine lv_aload_n hx hb dX11_end_8 rfl (lv_at hl 0 rfl) ?_
  refine wgetI C hw flX11_94 (rfl : _ = some (0, 11)) dX11_end_9 ?_
  refine lv_i2l hx hb dX11_end_12 rfl ?_
  refine wcallS1 (As := [.long ((p1 : Int32).toInt64), .long 0, .long (((M1.1 0 6) : Int32).toInt64)]) (rest := []) C hw (c_X11_in hW  rfl) slX11_82 ⟨Nat.le_of_ble_eq_true rfl, Nat.le_of_ble_eq_true rfl⟩ rfl rfl hl.1 (Nat.le_of_ble_eq_true rfl) dX11_end_13 ⟨Nat.zero_le _, Nat.zero_le _⟩ (fun H locs hw => ?_)
  refine lv_if_ne (tgt := 21) hx hb dX11_end_16 (by decide) (fun c2 => ?_) (fun c2 => ?_)
  · replace h := (if_neg c2).symm.trans h
    refine lv_aload_n hx hb dX11_end_21 rfl (lv_at hl 0 rfl) ?_
    refine lv_iload_n hx hb dX11_end_22 rfl (lv_at hl 1 rfl) ?_
    refine wputI C hw fpX11_94 (rfl : _ = some (0, 11)) dX11_end_23 (fun M3 eM3 H locs hw => ?_)
    replace h := letv_at eM3 h
    refine lv_iload_n hx hb dX11_end_26 rfl (lv_at hl 1 rfl) ?_
    exact wretI_W C hw h dX11_end_27
  · replace h := (if_pos c2).symm.trans h
    refine lv_iconst (v := (-1)) hx hb dX11_end_19 (by decide) ?_
    exact wretI_W C hw h dX11_end_20
set_option maxRecDepth 100000 in
set_option maxHeartbeats 4000000 in
theorem c_X11_isByte {l : Launch} {P : Wp} {E : State → Heap → Prop} (hW : Wok shR P E) {p1 : Int32} {p2 : Int32} {p3 : Int32} {M : Mem} {r : Int32} (h : f_X11_isByte p1 p2 p3 M = some r) : CT l shR P E yX11_isByte bX11_isByte 4 ((some .boolean)) 0 0 [.ref (P.2.2.1 0), .int p1, .int p2, .int p3] (some (.int r)) M M := by
  refine ct_of hW (by decide) (Nat.le_of_ble_eq_true rfl) (fun p e s m args below meth c C ls hl hw => ?_)
  have hx := C.1
  have hb := C.2.1
  replace hl : lv_has ls 4 [(0, .ref (P.2.2.1 0)), (1, .int p1), (2, .int p2), (3, .int p3)] := hl
  refine lv_iload_n hx hb dX11_isByte_0 rfl (lv_at hl 1 rfl) ?_
  refine lv_aload_n hx hb dX11_isByte_1 rfl (lv_at hl 0 rfl) ?_
  refine wgetI C hw flX11_94 (rfl : _ = some (0, 11)) dX11_isByte_2 ?_
  refine lv_icmp_ge (tgt := 32) hx hb dX11_isByte_5 (by decide) (fun c1 => ?_) (fun c1 => ?_)
  · replace h := (if_pos c1).symm.trans h
    refine lv_iconst (v := 0) hx hb dX11_isByte_32 (by decide) ?_
    exact wretZ_R C hw (Or.inl rfl) h dX11_isByte_33
  · replace h := (if_neg c1).symm.trans h
    refine lv_aload_n hx hb dX11_isByte_8 rfl (lv_at hl 0 rfl) ?_
    refine wgetR (t := 5) C hw flX11_23 (rfl : _ = some (0, 11)) rfl dX11_isByte_9 ?_
    refine lv_iload_n hx hb dX11_isByte_12 rfl (lv_at hl 1 rfl) ?_
    obtain ⟨g2, h⟩ := grd h
    refine wbald C hw (rfl : _ = some (2, 600)) g2 dX11_isByte_13 ?_
    refine lv_iload_n hx hb dX11_isByte_14 rfl (lv_at hl 2 rfl) ?_
    refine lv_icmp_lt (tgt := 32) hx hb dX11_isByte_15 (by decide) (fun c3 => ?_) (fun c3 => ?_)
    · replace h := (if_pos c3).symm.trans h
      refine lv_iconst (v := 0) hx hb dX11_isByte_32 (by decide) ?_
      exact wretZ_R C hw (Or.inl rfl) h dX11_isByte_33
    · replace h := (if_neg c3).symm.trans h
      refine lv_aload_n hx hb dX11_isByte_18 rfl (lv_at hl 0 rfl) ?_
      refine wgetR (t := 5) C hw flX11_23 (rfl : _ = some (0, 11)) rfl dX11_isByte_19 ?_
      refine lv_iload_n hx hb dX11_isByte_22 rfl (lv_at hl 1 rfl) ?_
      obtain ⟨g4, h⟩ := grd h
      refine wbald C hw (rfl : _ = some (2, 600)) g4 dX11_isByte_23 ?_
      refine lv_iload_n hx hb dX11_isByte_24 rfl (lv_at hl 3 rfl) ?_
      refine lv_icmp_gt (tgt := 32) hx hb dX11_isByte_25 (by decide) (fun c5 => ?_) (fun c5 => ?_)
      · replace h := (if_pos c5).symm.trans h
        refine lv_iconst (v := 0) hx hb dX11_isByte_32 (by decide) ?_
        exact wretZ_R C hw (Or.inl rfl) h dX11_isByte_33
      · replace h := (if_neg c5).symm.trans h
        refine lv_iconst (v := 1) hx hb dX11_isByte_28 (by decide) ?_
        refine lv_goto (tgt := 33) hx hb dX11_isByte_29 (by decide) ?_
        exact wretZ_R C hw (Or.inr rfl) h dX11_isByte_33
set_option maxRecDepth 100000 in
set_option maxHeartbeats 4000000 in
theorem c_X11_next {l : Launch} {P : Wp} {E : State → Heap → Prop} (hW : Wok shR P E) {M : Mem} {M' : Mem} (h : f_X11_next M = some M') : CT l shR P E yX11_next bX11_next 2 (none) 1 23 [.ref (P.2.2.1 0)] none M M' := by
  refine ct_of hW (by decide) (Nat.le_of_ble_eq_true rfl) (fun p e s m args below meth c C ls hl hw => ?_)
  have hx := C.1
  have hb := C.2.1
  replace hl : lv_has ls 2 [(0, .ref (P.2.2.1 0))] := hl
  have cut_208 : ∀ (n_208 : Nat) (M_208 : Mem) (ls : Array Slot) (H : Heap) (locs : List Loc), lv_has ls 2 [(0, .ref (P.2.2.1 0))] → Hw shR P M_208 s H locs → lq1 (L_X11_next_208) n_208 M_208 = some M' → W p l e { frames := 1, cells := 0, slots := 0, locals := 23 } s m args below meth c H locs 0 0 (MQ below (CQ shR P E none M') args s 0 0 (wA shR P)) (F0 m 208 ls []) := by
    intro n_208
    induction n_208 with
    | zero => intro M_208 ls H locs hl hw h; cases h
    | succ n_208 ih_208 =>
      intro M_208 ls H locs hl hw h
      replace h := lq1_succ h
      refine lv_aload_n hx hb dX11_next_208 rfl (lv_at hl 0 rfl) ?_
      refine lv_aload_n hx hb dX11_next_209 rfl (lv_at hl 0 rfl) ?_
      refine wgetI C hw flX11_101 (rfl : _ = some (0, 11)) dX11_next_210 ?_
      refine lv_bipush (v := 48) hx hb dX11_next_213 (by decide) ?_
      refine lv_bipush (v := 57) hx hb dX11_next_215 (by decide) ?_
      obtain ⟨r25, e26, h⟩ := bnd_some h
      refine wcallV1 (As := [.int (M_208.1 0 7), .int 48, .int 57]) (rest := []) C hw (c_X11_isByte hW  e26) vlX11_104 ⟨Nat.le_of_ble_eq_true rfl, Nat.le_of_ble_eq_true rfl⟩ (rfl : _ = some (0, 11)) rfl rfl rfl hl.1 (Nat.le_of_ble_eq_true rfl) dX11_next_217 ⟨Nat.zero_le _, Nat.zero_le _⟩ (fun H locs hw => ?_)
      refine lv_if_eq (tgt := 307) hx hb dX11_next_220 (by decide) (fun c27 => ?_) (fun c27 => ?_)
      · replace h := (if_pos c27).symm.trans h
        exact wretV_W C hw h dX11_next_307
      · replace h := (if_neg c27).symm.trans h
        refine lv_aload_n hx hb dX11_next_223 rfl (lv_at hl 0 rfl) ?_
        refine lv_aload_n hx hb dX11_next_224 rfl (lv_at hl 0 rfl) ?_
        refine wgetI C hw flX11_111 (rfl : _ = some (0, 11)) dX11_next_225 ?_
        refine lv_ldc hx hb C.2.2.2.1 (C.2.2.2.2.1 _ (List.mem_cons_of_mem _ (gm kcX11_127 rfl))) dX11_next_228 ?_
        refine lv_icmp_le (tgt := 238) hx hb dX11_next_230 (by decide) (fun c28 => ?_) (fun c28 => ?_)
        · replace h := (if_pos c28).symm.trans h
          refine lv_bipush (v := 10) hx hb dX11_next_238 (by decide) ?_
          refine lv_aload_n hx hb dX11_next_240 rfl (lv_at hl 0 rfl) ?_
          refine wgetI C hw flX11_111 (rfl : _ = some (0, 11)) dX11_next_241 ?_
          refine lv_imul hx hb dX11_next_244 ?_
          refine lv_aload_n hx hb dX11_next_245 rfl (lv_at hl 0 rfl) ?_
          refine wgetR (t := 5) C hw flX11_23 (rfl : _ = some (0, 11)) rfl dX11_next_246 ?_
          refine lv_aload_n hx hb dX11_next_249 rfl (lv_at hl 0 rfl) ?_
          refine wgetI C hw flX11_101 (rfl : _ = some (0, 11)) dX11_next_250 ?_
          obtain ⟨g29, h⟩ := grd h
          refine wbald C hw (rfl : _ = some (2, 600)) g29 dX11_next_253 ?_
          refine lv_iadd hx hb dX11_next_254 ?_
          refine lv_bipush (v := 48) hx hb dX11_next_255 (by decide) ?_
          refine lv_isub hx hb dX11_next_257 ?_
          refine wputI C hw fpX11_111 (rfl : _ = some (0, 11)) dX11_next_258 (fun M30 eM30 H locs hw => ?_)
          replace h := letv_at eM30 h
          refine lv_aload_n hx hb dX11_next_261 rfl (lv_at hl 0 rfl) ?_
          refine lv_dup hx hb dX11_next_262 rfl ?_
          refine wgetI C hw flX11_101 (rfl : _ = some (0, 11)) dX11_next_263 ?_
          refine lv_iconst (v := 1) hx hb dX11_next_266 (by decide) ?_
          refine lv_iadd hx hb dX11_next_267 ?_
          refine wputI C hw fpX11_101 (rfl : _ = some (0, 11)) dX11_next_268 (fun M31 eM31 H locs hw => ?_)
          replace h := letv_at eM31 h
          refine lv_goto (tgt := 208) hx hb dX11_next_271 (by decide) ?_
          exact ih_208 M31 ls _ _ (lv_sub hl [0] rfl) hw h
        · replace h := (if_neg c28).symm.trans h
          refine lv_ldc hx hb C.2.2.2.1 (C.2.2.2.2.1 _ (List.mem_cons_of_mem _ (gm kcX11_128 rfl))) dX11_next_233 ?_
          refine lv_goto (tgt := 258) hx hb dX11_next_235 (by decide) ?_
          refine wputI C hw fpX11_111 (rfl : _ = some (0, 11)) dX11_next_258 (fun M32 eM32 H locs hw => ?_)
          replace h := letv_at eM32 h
          refine lv_aload_n hx hb dX11_next_261 rfl (lv_at hl 0 rfl) ?_
          refine lv_dup hx hb dX11_next_262 rfl ?_
          refine wgetI C hw flX11_101 (rfl : _ = some (0, 11)) dX11_next_263 ?_
          refine lv_iconst (v := 1) hx hb dX11_next_266 (by decide) ?_
          refine lv_iadd hx hb dX11_next_267 ?_
          refine wputI C hw fpX11_101 (rfl : _ = some (0, 11)) dX11_next_268 (fun M33 eM33 H locs hw => ?_)
          replace h := letv_at eM33 h
          refine lv_goto (tgt := 208) hx hb dX11_next_271 (by decide) ?_
          exact ih_208 M33 ls _ _ (lv_sub hl [0] rfl) hw h
  have cut_102 : ∀ (n_102 : Nat) (v1_102 : Int32) (M_102 : Mem) (ls : Array Slot) (H : Heap) (locs : List Loc), lv_has ls 2 [(0, .ref (P.2.2.1 0)), (1, .int v1_102)] → Hw shR P M_102 s H locs → lq2 (L_X11_next_102) n_102 v1_102 M_102 = some M' → W p l e { frames := 1, cells := 0, slots := 0, locals := 23 } s m args below meth c H locs 0 0 (MQ below (CQ shR P E none M') args s 0 0 (wA shR P)) (F0 m 102 ls []) := by
    intro n_102
    induction n_102 with
    | zero => intro v1_102 M_102 ls H locs hl hw h; cases h
    | succ n_102 ih_102 =>
      intro v1_102 M_102 ls H locs hl hw h
      replace h := lq2_succ h
      have cut_153 : ∀ (v1_153 : Int32) (w1_153 : Int64) (M_153 : Mem) (ls : Array Slot) (H : Heap) (locs : List Loc), lv_has ls 2 [(0, .ref (P.2.2.1 0)), (1, .int v1_153)] → Hw shR P M_153 s H locs → J_X11_next_153 (lq2 (L_X11_next_102) n_102) v1_153 w1_153 M_153 = some M' → W p l e { frames := 1, cells := 0, slots := 0, locals := 23 } s m args below meth c H locs 0 0 (MQ below (CQ shR P E none M') args s 0 0 (wA shR P)) (F0 m 153 ls [.long w1_153, .ref (P.2.2.1 0)]) := by
        intro v1_153 w1_153 M_153 ls H locs hl hw h
        refine wputJ C hw fpX11_114 (rfl : _ = some (0, 11)) dX11_next_153 (fun M40 eM40 H locs hw => ?_)
        replace h := letv_at eM40 h
        refine lv_iload_n hx hb dX11_next_156 rfl (lv_at hl 1 rfl) ?_
        refine lv_bipush (v := 11) hx hb dX11_next_157 (by decide) ?_
        refine lv_icmp_le (tgt := 169) hx hb dX11_next_159 (by decide) (fun c41 => ?_) (fun c41 => ?_)
        · replace h := (if_pos c41).symm.trans h
          refine lv_aload_n hx hb dX11_next_169 rfl (lv_at hl 0 rfl) ?_
          refine lv_dup hx hb dX11_next_170 rfl ?_
          refine wgetI C hw flX11_101 (rfl : _ = some (0, 11)) dX11_next_171 ?_
          refine lv_iconst (v := 1) hx hb dX11_next_174 (by decide) ?_
          refine lv_iadd hx hb dX11_next_175 ?_
          refine wputI C hw fpX11_101 (rfl : _ = some (0, 11)) dX11_next_176 (fun M42 eM42 H locs hw => ?_)
          replace h := letv_at eM42 h
          refine lv_iinc (v := (v1_153 + 1)) (lv' := [(1, .int (v1_153 + 1)), (0, .ref (P.2.2.1 0))]) (k := 1) hx hb dX11_next_179 hl rfl (congrArg (fun z => v1_153 + z) (by decide)) (by decide) rfl (fun ls hl => ?_)
          refine lv_goto (tgt := 102) hx hb dX11_next_182 (by decide) ?_
          exact ih_102 (v1_153 + 1) M42 ls _ _ (lv_sub hl [1, 0] rfl) hw h
        · replace h := (if_neg c41).symm.trans h
          refine lv_aload_n hx hb dX11_next_162 rfl (lv_at hl 0 rfl) ?_
          refine lv_ldc2 hx hb C.2.2.2.1 (C.2.2.2.2.1 _ (List.mem_cons_of_mem _ (gm kcX11_121 rfl))) dX11_next_163 ?_
          refine wputJ C hw fpX11_114 (rfl : _ = some (0, 11)) dX11_next_166 (fun M43 eM43 H locs hw => ?_)
          replace h := letv_at eM43 h
          refine lv_aload_n hx hb dX11_next_169 rfl (lv_at hl 0 rfl) ?_
          refine lv_dup hx hb dX11_next_170 rfl ?_
          refine wgetI C hw flX11_101 (rfl : _ = some (0, 11)) dX11_next_171 ?_
          refine lv_iconst (v := 1) hx hb dX11_next_174 (by decide) ?_
          refine lv_iadd hx hb dX11_next_175 ?_
          refine wputI C hw fpX11_101 (rfl : _ = some (0, 11)) dX11_next_176 (fun M44 eM44 H locs hw => ?_)
          replace h := letv_at eM44 h
          refine lv_iinc (v := (v1_153 + 1)) (lv' := [(1, .int (v1_153 + 1)), (0, .ref (P.2.2.1 0))]) (k := 1) hx hb dX11_next_179 hl rfl (congrArg (fun z => v1_153 + z) (by decide)) (by decide) rfl (fun ls hl => ?_)
          refine lv_goto (tgt := 102) hx hb dX11_next_182 (by decide) ?_
          exact ih_102 (v1_153 + 1) M44 ls _ _ (lv_sub hl [1, 0] rfl) hw h
      refine lv_aload_n hx hb dX11_next_102 rfl (lv_at hl 0 rfl) ?_
      refine lv_aload_n hx hb dX11_next_103 rfl (lv_at hl 0 rfl) ?_
      refine wgetI C hw flX11_101 (rfl : _ = some (0, 11)) dX11_next_104 ?_
      refine lv_bipush (v := 97) hx hb dX11_next_107 (by decide) ?_
      refine lv_bipush (v := 122) hx hb dX11_next_109 (by decide) ?_
      obtain ⟨r35, e36, h⟩ := bnd_some h
      refine wcallV1 (As := [.int (M_102.1 0 7), .int 97, .int 122]) (rest := []) C hw (c_X11_isByte hW  e36) vlX11_104 ⟨Nat.le_of_ble_eq_true rfl, Nat.le_of_ble_eq_true rfl⟩ (rfl : _ = some (0, 11)) rfl rfl rfl hl.1 (Nat.le_of_ble_eq_true rfl) dX11_next_111 ⟨Nat.zero_le _, Nat.zero_le _⟩ (fun H locs hw => ?_)
      refine lv_if_eq (tgt := 185) hx hb dX11_next_114 (by decide) (fun c37 => ?_) (fun c37 => ?_)
      · replace h := (if_pos c37).symm.trans h
        refine lv_goto (tgt := 307) hx hb dX11_next_185 (by decide) ?_
        exact wretV_W C hw h dX11_next_307
      · replace h := (if_neg c37).symm.trans h
        refine lv_aload_n hx hb dX11_next_117 rfl (lv_at hl 0 rfl) ?_
        refine lv_iload_n hx hb dX11_next_118 rfl (lv_at hl 1 rfl) ?_
        refine lv_bipush (v := 11) hx hb dX11_next_119 (by decide) ?_
        refine lv_icmp_le (tgt := 130) hx hb dX11_next_121 (by decide) (fun c38 => ?_) (fun c38 => ?_)
        · replace h := (if_pos c38).symm.trans h
          refine lv_ldc2 hx hb C.2.2.2.1 (C.2.2.2.2.1 _ (List.mem_cons_of_mem _ (gm kcX11_123 rfl))) dX11_next_130 ?_
          refine lv_aload_n hx hb dX11_next_133 rfl (lv_at hl 0 rfl) ?_
          refine wgetJ C hw flX11_114 (rfl : _ = some (0, 11)) dX11_next_134 ?_
          refine lv_lmul hx hb dX11_next_137 ?_
          refine lv_aload_n hx hb dX11_next_138 rfl (lv_at hl 0 rfl) ?_
          refine wgetR (t := 5) C hw flX11_23 (rfl : _ = some (0, 11)) rfl dX11_next_139 ?_
          refine lv_aload_n hx hb dX11_next_142 rfl (lv_at hl 0 rfl) ?_
          refine wgetI C hw flX11_101 (rfl : _ = some (0, 11)) dX11_next_143 ?_
          obtain ⟨g39, h⟩ := grd h
          refine wbald C hw (rfl : _ = some (2, 600)) g39 dX11_next_146 ?_
          refine lv_i2l hx hb dX11_next_147 rfl ?_
          refine lv_ladd hx hb dX11_next_148 ?_
          refine lv_ldc2 hx hb C.2.2.2.1 (C.2.2.2.2.1 _ (List.mem_cons_of_mem _ (gm kcX11_125 rfl))) dX11_next_149 ?_
          refine lv_lsub hx hb dX11_next_152 ?_
          exact cut_153 v1_102 ((((27 : Int64) * (M_102.2 0 11)) + (((M_102.1 5 (ix (M_102.1 0 7))) : Int32).toInt64)) - (96 : Int64)) M_102 ls _ _ (lv_sub hl [0, 1] rfl) hw h
        · replace h := (if_neg c38).symm.trans h
          refine lv_ldc2 hx hb C.2.2.2.1 (C.2.2.2.2.1 _ (List.mem_cons_of_mem _ (gm kcX11_121 rfl))) dX11_next_124 ?_
          refine lv_goto (tgt := 153) hx hb dX11_next_127 (by decide) ?_
          exact cut_153 v1_102 (-1) M_102 ls _ _ (lv_sub hl [0, 1] rfl) hw h
  have cut_0 : ∀ (n_0 : Nat) (M_0 : Mem) (ls : Array Slot) (H : Heap) (locs : List Loc), lv_has ls 2 [(0, .ref (P.2.2.1 0))] → Hw shR P M_0 s H locs → lq1 (L_X11_next_0) n_0 M_0 = some M' → W p l e { frames := 1, cells := 0, slots := 0, locals := 23 } s m args below meth c H locs 0 0 (MQ below (CQ shR P E none M') args s 0 0 (wA shR P)) (F0 m 0 ls []) := by
    intro n_0
    induction n_0 with
    | zero => intro M_0 ls H locs hl hw h; cases h
    | succ n_0 ih_0 =>
      intro M_0 ls H locs hl hw h
      replace h := lq1_succ h
      refine lv_aload_n hx hb dX11_next_0 rfl (lv_at hl 0 rfl) ?_
      refine lv_aload_n hx hb dX11_next_1 rfl (lv_at hl 0 rfl) ?_
      refine wgetI C hw flX11_101 (rfl : _ = some (0, 11)) dX11_next_2 ?_
      refine lv_bipush (v := 32) hx hb dX11_next_5 (by decide) ?_
      refine lv_bipush (v := 32) hx hb dX11_next_7 (by decide) ?_
      obtain ⟨r1, e2, h⟩ := bnd_some h
      refine wcallV1 (As := [.int (M_0.1 0 7), .int 32, .int 32]) (rest := []) C hw (c_X11_isByte hW  e2) vlX11_104 ⟨Nat.le_of_ble_eq_true rfl, Nat.le_of_ble_eq_true rfl⟩ (rfl : _ = some (0, 11)) rfl rfl rfl hl.1 (Nat.le_of_ble_eq_true rfl) dX11_next_9 ⟨Nat.zero_le _, Nat.zero_le _⟩ (fun H locs hw => ?_)
      refine lv_if_ne (tgt := 30) hx hb dX11_next_12 (by decide) (fun c3 => ?_) (fun c3 => ?_)
      · replace h := (if_neg c3).symm.trans h
        refine lv_aload_n hx hb dX11_next_30 rfl (lv_at hl 0 rfl) ?_
        refine lv_dup hx hb dX11_next_31 rfl ?_
        refine wgetI C hw flX11_101 (rfl : _ = some (0, 11)) dX11_next_32 ?_
        refine lv_iconst (v := 1) hx hb dX11_next_35 (by decide) ?_
        refine lv_iadd hx hb dX11_next_36 ?_
        refine wputI C hw fpX11_101 (rfl : _ = some (0, 11)) dX11_next_37 (fun M4 eM4 H locs hw => ?_)
        replace h := letv_at eM4 h
        refine lv_goto (tgt := 0) hx hb dX11_next_40 (by decide) ?_
        exact ih_0 M4 ls _ _ (lv_sub hl [0] rfl) hw h
      · replace h := (if_pos c3).symm.trans h
        refine lv_aload_n hx hb dX11_next_15 rfl (lv_at hl 0 rfl) ?_
        refine lv_aload_n hx hb dX11_next_16 rfl (lv_at hl 0 rfl) ?_
        refine wgetI C hw flX11_101 (rfl : _ = some (0, 11)) dX11_next_17 ?_
        refine lv_bipush (v := 10) hx hb dX11_next_20 (by decide) ?_
        refine lv_bipush (v := 10) hx hb dX11_next_22 (by decide) ?_
        obtain ⟨r5, e6, h⟩ := bnd_some h
        refine wcallV1 (As := [.int (M_0.1 0 7), .int 10, .int 10]) (rest := []) C hw (c_X11_isByte hW  e6) vlX11_104 ⟨Nat.le_of_ble_eq_true rfl, Nat.le_of_ble_eq_true rfl⟩ (rfl : _ = some (0, 11)) rfl rfl rfl hl.1 (Nat.le_of_ble_eq_true rfl) dX11_next_24 ⟨Nat.zero_le _, Nat.zero_le _⟩ (fun H locs hw => ?_)
        refine lv_if_eq (tgt := 43) hx hb dX11_next_27 (by decide) (fun c7 => ?_) (fun c7 => ?_)
        · replace h := (if_pos c7).symm.trans h
          refine lv_aload_n hx hb dX11_next_43 rfl (lv_at hl 0 rfl) ?_
          refine lv_aload_n hx hb dX11_next_44 rfl (lv_at hl 0 rfl) ?_
          refine wgetI C hw flX11_101 (rfl : _ = some (0, 11)) dX11_next_45 ?_
          refine wputI C hw fpX11_108 (rfl : _ = some (0, 11)) dX11_next_48 (fun M8 eM8 H locs hw => ?_)
          replace h := letv_at eM8 h
          refine lv_aload_n hx hb dX11_next_51 rfl (lv_at hl 0 rfl) ?_
          refine lv_iconst (v := 0) hx hb dX11_next_52 (by decide) ?_
          refine wputI C hw fpX11_111 (rfl : _ = some (0, 11)) dX11_next_53 (fun M9 eM9 H locs hw => ?_)
          replace h := letv_at eM9 h
          refine lv_aload_n hx hb dX11_next_56 rfl (lv_at hl 0 rfl) ?_
          refine lv_lconst (v := 0) hx hb dX11_next_57 (by decide) ?_
          refine wputJ C hw fpX11_114 (rfl : _ = some (0, 11)) dX11_next_58 (fun M10 eM10 H locs hw => ?_)
          replace h := letv_at eM10 h
          refine lv_aload_n hx hb dX11_next_61 rfl (lv_at hl 0 rfl) ?_
          refine wgetI C hw flX11_101 (rfl : _ = some (0, 11)) dX11_next_62 ?_
          refine lv_aload_n hx hb dX11_next_65 rfl (lv_at hl 0 rfl) ?_
          refine wgetI C hw flX11_94 (rfl : _ = some (0, 11)) dX11_next_66 ?_
          refine lv_icmp_ne (tgt := 80) hx hb dX11_next_69 (by decide) (fun c11 => ?_) (fun c11 => ?_)
          · replace h := (if_neg c11).symm.trans h
            refine lv_aload_n hx hb dX11_next_80 rfl (lv_at hl 0 rfl) ?_
            refine lv_aload_n hx hb dX11_next_81 rfl (lv_at hl 0 rfl) ?_
            refine wgetI C hw flX11_101 (rfl : _ = some (0, 11)) dX11_next_82 ?_
            refine lv_bipush (v := 97) hx hb dX11_next_85 (by decide) ?_
            refine lv_bipush (v := 122) hx hb dX11_next_87 (by decide) ?_
            obtain ⟨r12, e13, h⟩ := bnd_some h
            refine wcallV1 (As := [.int (M10.1 0 7), .int 97, .int 122]) (rest := []) C hw (c_X11_isByte hW  e13) vlX11_104 ⟨Nat.le_of_ble_eq_true rfl, Nat.le_of_ble_eq_true rfl⟩ (rfl : _ = some (0, 11)) rfl rfl rfl hl.1 (Nat.le_of_ble_eq_true rfl) dX11_next_89 ⟨Nat.zero_le _, Nat.zero_le _⟩ (fun H locs hw => ?_)
            refine lv_if_eq (tgt := 188) hx hb dX11_next_92 (by decide) (fun c14 => ?_) (fun c14 => ?_)
            · replace h := (if_pos c14).symm.trans h
              refine lv_aload_n hx hb dX11_next_188 rfl (lv_at hl 0 rfl) ?_
              refine lv_aload_n hx hb dX11_next_189 rfl (lv_at hl 0 rfl) ?_
              refine wgetI C hw flX11_101 (rfl : _ = some (0, 11)) dX11_next_190 ?_
              refine lv_bipush (v := 48) hx hb dX11_next_193 (by decide) ?_
              refine lv_bipush (v := 57) hx hb dX11_next_195 (by decide) ?_
              obtain ⟨r15, e16, h⟩ := bnd_some h
              refine wcallV1 (As := [.int (M10.1 0 7), .int 48, .int 57]) (rest := []) C hw (c_X11_isByte hW  e16) vlX11_104 ⟨Nat.le_of_ble_eq_true rfl, Nat.le_of_ble_eq_true rfl⟩ (rfl : _ = some (0, 11)) rfl rfl rfl hl.1 (Nat.le_of_ble_eq_true rfl) dX11_next_197 ⟨Nat.zero_le _, Nat.zero_le _⟩ (fun H locs hw => ?_)
              refine lv_if_eq (tgt := 274) hx hb dX11_next_200 (by decide) (fun c17 => ?_) (fun c17 => ?_)
              · replace h := (if_pos c17).symm.trans h
                refine lv_aload_n hx hb dX11_next_274 rfl (lv_at hl 0 rfl) ?_
                refine lv_aload_n hx hb dX11_next_275 rfl (lv_at hl 0 rfl) ?_
                refine wgetR (t := 5) C hw flX11_23 (rfl : _ = some (0, 11)) rfl dX11_next_276 ?_
                refine lv_aload_n hx hb dX11_next_279 rfl (lv_at hl 0 rfl) ?_
                refine wgetI C hw flX11_101 (rfl : _ = some (0, 11)) dX11_next_280 ?_
                obtain ⟨g18, h⟩ := grd h
                refine wbald C hw (rfl : _ = some (2, 600)) g18 dX11_next_283 ?_
                refine lv_bipush (v := 59) hx hb dX11_next_284 (by decide) ?_
                refine lv_icmp_ne (tgt := 293) hx hb dX11_next_286 (by decide) (fun c19 => ?_) (fun c19 => ?_)
                · replace h := (if_neg c19).symm.trans h
                  refine lv_iconst (v := 4) hx hb dX11_next_293 (by decide) ?_
                  refine wputI C hw fpX11_118 (rfl : _ = some (0, 11)) dX11_next_294 (fun M20 eM20 H locs hw => ?_)
                  replace h := letv_at eM20 h
                  refine lv_aload_n hx hb dX11_next_297 rfl (lv_at hl 0 rfl) ?_
                  refine lv_dup hx hb dX11_next_298 rfl ?_
                  refine wgetI C hw flX11_101 (rfl : _ = some (0, 11)) dX11_next_299 ?_
                  refine lv_iconst (v := 1) hx hb dX11_next_302 (by decide) ?_
                  refine lv_iadd hx hb dX11_next_303 ?_
                  refine wputI C hw fpX11_101 (rfl : _ = some (0, 11)) dX11_next_304 (fun M21 eM21 H locs hw => ?_)
                  replace h := letv_at eM21 h
                  exact wretV_W C hw h dX11_next_307
                · replace h := (if_pos c19).symm.trans h
                  refine lv_iconst (v := 3) hx hb dX11_next_289 (by decide) ?_
                  refine lv_goto (tgt := 294) hx hb dX11_next_290 (by decide) ?_
                  refine wputI C hw fpX11_118 (rfl : _ = some (0, 11)) dX11_next_294 (fun M22 eM22 H locs hw => ?_)
                  replace h := letv_at eM22 h
                  refine lv_aload_n hx hb dX11_next_297 rfl (lv_at hl 0 rfl) ?_
                  refine lv_dup hx hb dX11_next_298 rfl ?_
                  refine wgetI C hw flX11_101 (rfl : _ = some (0, 11)) dX11_next_299 ?_
                  refine lv_iconst (v := 1) hx hb dX11_next_302 (by decide) ?_
                  refine lv_iadd hx hb dX11_next_303 ?_
                  refine wputI C hw fpX11_101 (rfl : _ = some (0, 11)) dX11_next_304 (fun M23 eM23 H locs hw => ?_)
                  replace h := letv_at eM23 h
                  exact wretV_W C hw h dX11_next_307
              · replace h := (if_neg c17).symm.trans h
                refine lv_aload_n hx hb dX11_next_203 rfl (lv_at hl 0 rfl) ?_
                refine lv_iconst (v := 2) hx hb dX11_next_204 (by decide) ?_
                refine wputI C hw fpX11_118 (rfl : _ = some (0, 11)) dX11_next_205 (fun M24 eM24 H locs hw => ?_)
                replace h := letv_at eM24 h
                exact cut_208 FU M24 ls _ _ (lv_sub hl [0] rfl) hw h
            · replace h := (if_neg c14).symm.trans h
              refine lv_aload_n hx hb dX11_next_95 rfl (lv_at hl 0 rfl) ?_
              refine lv_iconst (v := 1) hx hb dX11_next_96 (by decide) ?_
              refine wputI C hw fpX11_118 (rfl : _ = some (0, 11)) dX11_next_97 (fun M34 eM34 H locs hw => ?_)
              replace h := letv_at eM34 h
              refine lv_iconst (v := 0) hx hb dX11_next_100 (by decide) ?_
              refine lv_istore_n (lv' := [(1, .int 0), (0, .ref (P.2.2.1 0))]) hx hb dX11_next_101 rfl hl (by decide) rfl (fun ls hl => ?_)
              exact cut_102 FU 0 M34 ls _ _ (lv_sub hl [1, 0] rfl) hw h
          · replace h := (if_pos c11).symm.trans h
            refine lv_aload_n hx hb dX11_next_72 rfl (lv_at hl 0 rfl) ?_
            refine lv_iconst (v := 0) hx hb dX11_next_73 (by decide) ?_
            refine wputI C hw fpX11_118 (rfl : _ = some (0, 11)) dX11_next_74 (fun M45 eM45 H locs hw => ?_)
            replace h := letv_at eM45 h
            refine lv_goto (tgt := 307) hx hb dX11_next_77 (by decide) ?_
            exact wretV_W C hw h dX11_next_307
        · replace h := (if_neg c7).symm.trans h
          refine lv_aload_n hx hb dX11_next_30 rfl (lv_at hl 0 rfl) ?_
          refine lv_dup hx hb dX11_next_31 rfl ?_
          refine wgetI C hw flX11_101 (rfl : _ = some (0, 11)) dX11_next_32 ?_
          refine lv_iconst (v := 1) hx hb dX11_next_35 (by decide) ?_
          refine lv_iadd hx hb dX11_next_36 ?_
          refine wputI C hw fpX11_101 (rfl : _ = some (0, 11)) dX11_next_37 (fun M46 eM46 H locs hw => ?_)
          replace h := letv_at eM46 h
          refine lv_goto (tgt := 0) hx hb dX11_next_40 (by decide) ?_
          exact ih_0 M46 ls _ _ (lv_sub hl [0] rfl) hw h
  exact cut_0 FU M ls _ _ (lv_sub hl [0] rfl) hw h
theorem z_X11_isGood {M : Mem} : f_X11_isGood M = 0 ∨ f_X11_isGood M = 1 := by
  unfold f_X11_isGood
  repeat' split
  all_goals first | exact Or.inl rfl | exact Or.inr rfl
set_option maxRecDepth 100000 in
set_option maxHeartbeats 4000000 in
theorem c_X11_isGood {l : Launch} {P : Wp} {E : State → Heap → Prop} (hW : Wok shR P E) {M : Mem} {r : Int32} (h : f_X11_isGood M = r) : CT l shR P E yX11_isGood bX11_isGood 1 ((some .boolean)) 0 0 [.ref (P.2.2.1 0)] (some (.int r)) M M := by
  refine ct_of hW (by decide) (Nat.le_of_ble_eq_true rfl) (fun p e s m args below meth c C ls hl hw => ?_)
  have hx := C.1
  have hb := C.2.1
  replace hl : lv_has ls 1 [(0, .ref (P.2.2.1 0))] := hl
  refine lv_aload_n hx hb dX11_isGood_0 rfl (lv_at hl 0 rfl) ?_
  refine wgetI C hw flX11_129 (rfl : _ = some (0, 11)) dX11_isGood_1 ?_
  refine lv_if_ne (tgt := 11) hx hb dX11_isGood_4 (by decide) (fun c1 => ?_) (fun c1 => ?_)
  · replace h := (if_neg c1).symm.trans h
    refine lv_iconst (v := 0) hx hb dX11_isGood_11 (by decide) ?_
    exact wretZ_T C hw (Or.inl rfl) h dX11_isGood_12
  · replace h := (if_pos c1).symm.trans h
    refine lv_iconst (v := 1) hx hb dX11_isGood_7 (by decide) ?_
    refine lv_goto (tgt := 12) hx hb dX11_isGood_8 (by decide) ?_
    exact wretZ_T C hw (Or.inr rfl) h dX11_isGood_12
set_option maxRecDepth 100000 in
set_option maxHeartbeats 4000000 in
theorem c_X11_fails {l : Launch} {P : Wp} {E : State → Heap → Prop} (hW : Wok shR P E) {p1 : Int32} {M : Mem} {M' : Mem} (h : f_X11_fails p1 M = some M') : CT l shR P E yX11_fails bX11_fails 2 (none) 0 0 [.ref (P.2.2.1 0), .int p1] none M M' := by
  refine ct_of hW (by decide) (Nat.le_of_ble_eq_true rfl) (fun p e s m args below meth c C ls hl hw => ?_)
  have hx := C.1
  have hb := C.2.1
  replace hl : lv_has ls 2 [(0, .ref (P.2.2.1 0)), (1, .int p1)] := hl
  refine lv_aload_n hx hb dX11_fails_0 rfl (lv_at hl 0 rfl) ?_
  refine wgetI C hw flX11_129 (rfl : _ = some (0, 11)) dX11_fails_1 ?_
  refine lv_if_eq (tgt := 8) hx hb dX11_fails_4 (by decide) (fun c1 => ?_) (fun c1 => ?_)
  · replace h := (if_pos c1).symm.trans h
    refine lv_aload_n hx hb dX11_fails_8 rfl (lv_at hl 0 rfl) ?_
    refine lv_iload_n hx hb dX11_fails_9 rfl (lv_at hl 1 rfl) ?_
    refine wputI C hw fpX11_129 (rfl : _ = some (0, 11)) dX11_fails_10 (fun M2 eM2 H locs hw => ?_)
    replace h := letv_at eM2 h
    refine lv_aload_n hx hb dX11_fails_13 rfl (lv_at hl 0 rfl) ?_
    refine lv_aload_n hx hb dX11_fails_14 rfl (lv_at hl 0 rfl) ?_
    refine wgetI C hw flX11_108 (rfl : _ = some (0, 11)) dX11_fails_15 ?_
    refine wputI C hw fpX11_132 (rfl : _ = some (0, 11)) dX11_fails_18 (fun M3 eM3 H locs hw => ?_)
    replace h := letv_at eM3 h
    exact wretV_W C hw h dX11_fails_21
  · replace h := (if_neg c1).symm.trans h
    exact wretV_W C hw h dX11_fails_7
theorem z_X11_is {p1 : Int64} {M : Mem} : f_X11_is p1 M = 0 ∨ f_X11_is p1 M = 1 := by
  unfold f_X11_is
  repeat' split
  all_goals first | exact Or.inl rfl | exact Or.inr rfl
set_option maxRecDepth 100000 in
set_option maxHeartbeats 4000000 in
theorem c_X11_is {l : Launch} {P : Wp} {E : State → Heap → Prop} (hW : Wok shR P E) {p1 : Int64} {M : Mem} {r : Int32} (h : f_X11_is p1 M = r) : CT l shR P E yX11_is bX11_is 3 ((some .boolean)) 0 0 [.ref (P.2.2.1 0), .long p1] (some (.int r)) M M := by
  refine ct_of hW (by decide) (Nat.le_of_ble_eq_true rfl) (fun p e s m args below meth c C ls hl hw => ?_)
  have hx := C.1
  have hb := C.2.1
  replace hl : lv_has ls 3 [(0, .ref (P.2.2.1 0)), (1, .long p1)] := hl
  refine lv_aload_n hx hb dX11_is_0 rfl (lv_at hl 0 rfl) ?_
  refine wgetI C hw flX11_129 (rfl : _ = some (0, 11)) dX11_is_1 ?_
  refine lv_if_ne (tgt := 28) hx hb dX11_is_4 (by decide) (fun c1 => ?_) (fun c1 => ?_)
  · replace h := (if_neg c1).symm.trans h
    refine lv_iconst (v := 0) hx hb dX11_is_28 (by decide) ?_
    exact wretZ_T C hw (Or.inl rfl) h dX11_is_29
  · replace h := (if_pos c1).symm.trans h
    refine lv_aload_n hx hb dX11_is_7 rfl (lv_at hl 0 rfl) ?_
    refine wgetI C hw flX11_118 (rfl : _ = some (0, 11)) dX11_is_8 ?_
    refine lv_iconst (v := 1) hx hb dX11_is_11 (by decide) ?_
    refine lv_icmp_ne (tgt := 28) hx hb dX11_is_12 (by decide) (fun c2 => ?_) (fun c2 => ?_)
    · replace h := (if_neg c2).symm.trans h
      refine lv_iconst (v := 0) hx hb dX11_is_28 (by decide) ?_
      exact wretZ_T C hw (Or.inl rfl) h dX11_is_29
    · replace h := (if_pos c2).symm.trans h
      refine lv_aload_n hx hb dX11_is_15 rfl (lv_at hl 0 rfl) ?_
      refine wgetJ C hw flX11_114 (rfl : _ = some (0, 11)) dX11_is_16 ?_
      refine lv_lload_n hx hb dX11_is_19 rfl (lv_at hl 1 rfl) ?_
      refine W.lcmp hx hb dX11_is_20 ?_
      refine lv_if_ne (tgt := 28) hx hb dX11_is_21 (by decide) (fun c3 => ?_) (fun c3 => ?_)
      · replace h := (if_neg c3).symm.trans h
        refine lv_iconst (v := 0) hx hb dX11_is_28 (by decide) ?_
        exact wretZ_T C hw (Or.inl rfl) h dX11_is_29
      · replace h := (if_pos c3).symm.trans h
        refine lv_iconst (v := 1) hx hb dX11_is_24 (by decide) ?_
        refine lv_goto (tgt := 29) hx hb dX11_is_25 (by decide) ?_
        exact wretZ_T C hw (Or.inr rfl) h dX11_is_29
set_option maxRecDepth 100000 in
set_option maxHeartbeats 4000000 in
theorem c_X11_takesWord {l : Launch} {P : Wp} {E : State → Heap → Prop} (hW : Wok shR P E) {p1 : Int64} {M : Mem} {r : Int32} {M' : Mem} (h : f_X11_takesWord p1 M = some (r, M')) : CT l shR P E yX11_takesWord bX11_takesWord 3 ((some .boolean)) 2 44 [.ref (P.2.2.1 0), .long p1] (some (.int r)) M M' := by
  refine ct_of hW (by decide) (Nat.le_of_ble_eq_true rfl) (fun p e s m args below meth c C ls hl hw => ?_)
  have hx := C.1
  have hb := C.2.1
  replace hl : lv_has ls 3 [(0, .ref (P.2.2.1 0)), (1, .long p1)] := hl
  refine lv_aload_n hx hb dX11_takesWord_0 rfl (lv_at hl 0 rfl) ?_
  refine lv_lload_n hx hb dX11_takesWord_1 rfl (lv_at hl 1 rfl) ?_
  refine wcallV1 (As := [.long p1]) (rest := []) C hw (c_X11_is hW  rfl) vlX11_135 ⟨Nat.le_of_ble_eq_true rfl, Nat.le_of_ble_eq_true rfl⟩ (rfl : _ = some (0, 11)) rfl rfl rfl hl.1 (Nat.le_of_ble_eq_true rfl) dX11_takesWord_2 ⟨Nat.zero_le _, Nat.zero_le _⟩ (fun H locs hw => ?_)
  refine lv_if_ne (tgt := 10) hx hb dX11_takesWord_5 (by decide) (fun c1 => ?_) (fun c1 => ?_)
  · replace h := (if_neg c1).symm.trans h
    refine lv_aload_n hx hb dX11_takesWord_10 rfl (lv_at hl 0 rfl) ?_
    obtain ⟨M4, e3, h⟩ := bnd_some h
    refine wcallV0 (As := []) (rest := []) C hw (c_X11_next hW  e3) vlX11_139 ⟨Nat.le_of_ble_eq_true rfl, Nat.le_of_ble_eq_true rfl⟩ (rfl : _ = some (0, 11)) rfl rfl rfl hl.1 (Nat.le_of_ble_eq_true rfl) dX11_takesWord_11 ⟨Nat.zero_le _, Nat.zero_le _⟩ (fun H locs hw => ?_)
    refine lv_iconst (v := 1) hx hb dX11_takesWord_14 (by decide) ?_
    exact wretZ_W C hw (Or.inr rfl) h dX11_takesWord_15
  · replace h := (if_pos c1).symm.trans h
    refine lv_iconst (v := 0) hx hb dX11_takesWord_8 (by decide) ?_
    exact wretZ_W C hw (Or.inl rfl) h dX11_takesWord_9
set_option maxRecDepth 100000 in
set_option maxHeartbeats 4000000 in
theorem c_X11_asks {l : Launch} {P : Wp} {E : State → Heap → Prop} (hW : Wok shR P E) {p1 : Int64} {M : Mem} {M' : Mem} (h : f_X11_asks p1 M = some M') : CT l shR P E yX11_asks bX11_asks 3 (none) 3 66 [.ref (P.2.2.1 0), .long p1] none M M' := by
  refine ct_of hW (by decide) (Nat.le_of_ble_eq_true rfl) (fun p e s m args below meth c C ls hl hw => ?_)
  have hx := C.1
  have hb := C.2.1
  replace hl : lv_has ls 3 [(0, .ref (P.2.2.1 0)), (1, .long p1)] := hl
  refine lv_aload_n hx hb dX11_asks_0 rfl (lv_at hl 0 rfl) ?_
  refine lv_lload_n hx hb dX11_asks_1 rfl (lv_at hl 1 rfl) ?_
  obtain ⟨r1, M3, e2, h⟩ := bnd2_some h
  refine wcallV1 (As := [.long p1]) (rest := []) C hw (c_X11_takesWord hW  e2) vlX11_142 ⟨Nat.le_of_ble_eq_true rfl, Nat.le_of_ble_eq_true rfl⟩ (rfl : _ = some (0, 11)) rfl rfl rfl hl.1 (Nat.le_of_ble_eq_true rfl) dX11_asks_2 ⟨Nat.zero_le _, Nat.zero_le _⟩ (fun H locs hw => ?_)
  refine lv_if_ne (tgt := 13) hx hb dX11_asks_5 (by decide) (fun c4 => ?_) (fun c4 => ?_)
  · replace h := (if_neg c4).symm.trans h
    exact wretV_W C hw h dX11_asks_13
  · replace h := (if_pos c4).symm.trans h
    refine lv_aload_n hx hb dX11_asks_8 rfl (lv_at hl 0 rfl) ?_
    refine lv_iconst (v := 1) hx hb dX11_asks_9 (by decide) ?_
    obtain ⟨M7, e6, h⟩ := bnd_some h
    refine wcallV0 (As := [.int 1]) (rest := []) C hw (c_X11_fails hW  e6) vlX11_145 ⟨Nat.le_of_ble_eq_true rfl, Nat.le_of_ble_eq_true rfl⟩ (rfl : _ = some (0, 11)) rfl rfl rfl hl.1 (Nat.le_of_ble_eq_true rfl) dX11_asks_10 ⟨Nat.zero_le _, Nat.zero_le _⟩ (fun H locs hw => ?_)
    exact wretV_W C hw h dX11_asks_13
set_option maxRecDepth 100000 in
set_option maxHeartbeats 4000000 in
theorem c_X11_number {l : Launch} {P : Wp} {E : State → Heap → Prop} (hW : Wok shR P E) {p1 : Int32} {p2 : Int32} {M : Mem} {r : Int32} {M' : Mem} (h : f_X11_number p1 p2 M = some (r, M')) : CT l shR P E yX11_number bX11_number 4 ((some .int)) 2 44 [.ref (P.2.2.1 0), .int p1, .int p2] (some (.int r)) M M' := by
  refine ct_of hW (by decide) (Nat.le_of_ble_eq_true rfl) (fun p e s m args below meth c C ls hl hw => ?_)
  have hx := C.1
  have hb := C.2.1
  replace hl : lv_has ls 4 [(0, .ref (P.2.2.1 0)), (1, .int p1), (2, .int p2)] := hl
  refine lv_aload_n hx hb dX11_number_0 rfl (lv_at hl 0 rfl) ?_
  refine wgetI C hw flX11_129 (rfl : _ = some (0, 11)) dX11_number_1 ?_
  refine lv_if_eq (tgt := 9) hx hb dX11_number_4 (by decide) (fun c1 => ?_) (fun c1 => ?_)
  · replace h := (if_pos c1).symm.trans h
    refine lv_aload_n hx hb dX11_number_9 rfl (lv_at hl 0 rfl) ?_
    refine wgetI C hw flX11_118 (rfl : _ = some (0, 11)) dX11_number_10 ?_
    refine lv_iconst (v := 2) hx hb dX11_number_13 (by decide) ?_
    refine lv_icmp_eq (tgt := 24) hx hb dX11_number_14 (by decide) (fun c2 => ?_) (fun c2 => ?_)
    · replace h := (if_pos c2).symm.trans h
      refine lv_aload_n hx hb dX11_number_24 rfl (lv_at hl 0 rfl) ?_
      refine wgetI C hw flX11_111 (rfl : _ = some (0, 11)) dX11_number_25 ?_
      refine lv_i2l hx hb dX11_number_28 rfl ?_
      refine lv_iload_n hx hb dX11_number_29 rfl (lv_at hl 1 rfl) ?_
      refine lv_i2l hx hb dX11_number_30 rfl ?_
      refine lv_iload_n hx hb dX11_number_31 rfl (lv_at hl 2 rfl) ?_
      refine lv_i2l hx hb dX11_number_32 rfl ?_
      refine wcallS1 (As := [.long (((M.1 0 10) : Int32).toInt64), .long ((p1 : Int32).toInt64), .long ((p2 : Int32).toInt64)]) (rest := []) C hw (c_X11_in hW  rfl) slX11_82 ⟨Nat.le_of_ble_eq_true rfl, Nat.le_of_ble_eq_true rfl⟩ rfl rfl hl.1 (Nat.le_of_ble_eq_true rfl) dX11_number_33 ⟨Nat.zero_le _, Nat.zero_le _⟩ (fun H locs hw => ?_)
      refine lv_if_ne (tgt := 46) hx hb dX11_number_36 (by decide) (fun c3 => ?_) (fun c3 => ?_)
      · replace h := (if_neg c3).symm.trans h
        refine lv_aload_n hx hb dX11_number_46 rfl (lv_at hl 0 rfl) ?_
        refine wgetI C hw flX11_111 (rfl : _ = some (0, 11)) dX11_number_47 ?_
        refine lv_topi (fun x4 ex4 => ?_)
        replace h := letv_at ex4 h
        refine lv_istore_n (lv' := [(3, .int x4), (0, .ref (P.2.2.1 0)), (1, .int p1), (2, .int p2)]) hx hb dX11_number_50 rfl hl (by decide) rfl (fun ls hl => ?_)
        refine lv_aload_n hx hb dX11_number_51 rfl (lv_at hl 1 rfl) ?_
        obtain ⟨M7, e6, h⟩ := bnd_some h
        refine wcallV0 (As := []) (rest := []) C hw (c_X11_next hW  e6) vlX11_139 ⟨Nat.le_of_ble_eq_true rfl, Nat.le_of_ble_eq_true rfl⟩ (rfl : _ = some (0, 11)) rfl rfl rfl hl.1 (Nat.le_of_ble_eq_true rfl) dX11_number_52 ⟨Nat.zero_le _, Nat.zero_le _⟩ (fun H locs hw => ?_)
        refine lv_iload_n hx hb dX11_number_55 rfl (lv_at hl 0 rfl) ?_
        exact wretI_W C hw h dX11_number_56
      · replace h := (if_pos c3).symm.trans h
        refine lv_aload_n hx hb dX11_number_39 rfl (lv_at hl 0 rfl) ?_
        refine lv_iconst (v := 2) hx hb dX11_number_40 (by decide) ?_
        obtain ⟨M10, e9, h⟩ := bnd_some h
        refine wcallV0 (As := [.int 2]) (rest := []) C hw (c_X11_fails hW  e9) vlX11_145 ⟨Nat.le_of_ble_eq_true rfl, Nat.le_of_ble_eq_true rfl⟩ (rfl : _ = some (0, 11)) rfl rfl rfl hl.1 (Nat.le_of_ble_eq_true rfl) dX11_number_41 ⟨Nat.zero_le _, Nat.zero_le _⟩ (fun H locs hw => ?_)
        refine lv_iload_n hx hb dX11_number_44 rfl (lv_at hl 1 rfl) ?_
        exact wretI_W C hw h dX11_number_45
    · replace h := (if_neg c2).symm.trans h
      refine lv_aload_n hx hb dX11_number_17 rfl (lv_at hl 0 rfl) ?_
      refine lv_iconst (v := 1) hx hb dX11_number_18 (by decide) ?_
      obtain ⟨M13, e12, h⟩ := bnd_some h
      refine wcallV0 (As := [.int 1]) (rest := []) C hw (c_X11_fails hW  e12) vlX11_145 ⟨Nat.le_of_ble_eq_true rfl, Nat.le_of_ble_eq_true rfl⟩ (rfl : _ = some (0, 11)) rfl rfl rfl hl.1 (Nat.le_of_ble_eq_true rfl) dX11_number_19 ⟨Nat.zero_le _, Nat.zero_le _⟩ (fun H locs hw => ?_)
      refine lv_iload_n hx hb dX11_number_22 rfl (lv_at hl 1 rfl) ?_
      exact wretI_W C hw h dX11_number_23
  · replace h := (if_neg c1).symm.trans h
    refine lv_iload_n hx hb dX11_number_7 rfl (lv_at hl 1 rfl) ?_
    exact wretI_W C hw h dX11_number_8
set_option maxRecDepth 100000 in
set_option maxHeartbeats 4000000 in
theorem c_X11_number_ {l : Launch} {P : Wp} {E : State → Heap → Prop} (hW : Wok shR P E) {p1 : Int64} {p3 : Int32} {p4 : Int32} {M : Mem} {r : Int32} {M' : Mem} (h : f_X11_number_ p1 p3 p4 M = some (r, M')) : CT l shR P E yX11_number_ bX11_number_ 5 ((some .int)) 4 88 [.ref (P.2.2.1 0), .long p1, .int p3, .int p4] (some (.int r)) M M' := by
  refine ct_of hW (by decide) (Nat.le_of_ble_eq_true rfl) (fun p e s m args below meth c C ls hl hw => ?_)
  have hx := C.1
  have hb := C.2.1
  replace hl : lv_has ls 5 [(0, .ref (P.2.2.1 0)), (1, .long p1), (3, .int p3), (4, .int p4)] := hl
  refine lv_aload_n hx hb dX11_number__0 rfl (lv_at hl 0 rfl) ?_
  refine lv_lload_n hx hb dX11_number__1 rfl (lv_at hl 1 rfl) ?_
  obtain ⟨M3, e2, h⟩ := bnd_some h
  refine wcallV0 (As := [.long p1]) (rest := []) C hw (c_X11_asks hW  e2) vlX11_148 ⟨Nat.le_of_ble_eq_true rfl, Nat.le_of_ble_eq_true rfl⟩ (rfl : _ = some (0, 11)) rfl rfl rfl hl.1 (Nat.le_of_ble_eq_true rfl) dX11_number__2 ⟨Nat.zero_le _, Nat.zero_le _⟩ (fun H locs hw => ?_)
  refine lv_aload_n hx hb dX11_number__5 rfl (lv_at hl 0 rfl) ?_
  refine lv_iload_n hx hb dX11_number__6 rfl (lv_at hl 2 rfl) ?_
  refine lv_iload hx hb dX11_number__7 (lv_at hl 3 rfl) ?_
  obtain ⟨r4, M6, e5, h⟩ := bnd2_some h
  refine wcallV1 (As := [.int p3, .int p4]) (rest := []) C hw (c_X11_number hW  e5) vlX11_152 ⟨Nat.le_of_ble_eq_true rfl, Nat.le_of_ble_eq_true rfl⟩ (rfl : _ = some (0, 11)) rfl rfl rfl hl.1 (Nat.le_of_ble_eq_true rfl) dX11_number__9 ⟨Nat.zero_le _, Nat.zero_le _⟩ (fun H locs hw => ?_)
  exact wretI_W C hw h dX11_number__12
set_option maxRecDepth 100000 in
set_option maxHeartbeats 4000000 in
theorem c_X11_ends {l : Launch} {P : Wp} {E : State → Heap → Prop} (hW : Wok shR P E) {M : Mem} {M' : Mem} (h : f_X11_ends M = some M') : CT l shR P E yX11_ends bX11_ends 1 (none) 2 44 [.ref (P.2.2.1 0)] none M M' := by
  refine ct_of hW (by decide) (Nat.le_of_ble_eq_true rfl) (fun p e s m args below meth c C ls hl hw => ?_)
  have hx := C.1
  have hb := C.2.1
  replace hl : lv_has ls 1 [(0, .ref (P.2.2.1 0))] := hl
  refine lv_aload_n hx hb dX11_ends_0 rfl (lv_at hl 0 rfl) ?_
  refine wgetI C hw flX11_118 (rfl : _ = some (0, 11)) dX11_ends_1 ?_
  refine lv_iconst (v := 3) hx hb dX11_ends_4 (by decide) ?_
  refine lv_icmp_eq (tgt := 13) hx hb dX11_ends_5 (by decide) (fun c1 => ?_) (fun c1 => ?_)
  · replace h := (if_pos c1).symm.trans h
    refine lv_aload_n hx hb dX11_ends_13 rfl (lv_at hl 0 rfl) ?_
    refine wgetI C hw flX11_129 (rfl : _ = some (0, 11)) dX11_ends_14 ?_
    refine lv_if_ne (tgt := 24) hx hb dX11_ends_17 (by decide) (fun c2 => ?_) (fun c2 => ?_)
    · replace h := (if_neg c2).symm.trans h
      exact wretV_W C hw h dX11_ends_24
    · replace h := (if_pos c2).symm.trans h
      refine lv_aload_n hx hb dX11_ends_20 rfl (lv_at hl 0 rfl) ?_
      obtain ⟨M5, e4, h⟩ := bnd_some h
      refine wcallV0 (As := []) (rest := []) C hw (c_X11_next hW  e4) vlX11_139 ⟨Nat.le_of_ble_eq_true rfl, Nat.le_of_ble_eq_true rfl⟩ (rfl : _ = some (0, 11)) rfl rfl rfl hl.1 (Nat.le_of_ble_eq_true rfl) dX11_ends_21 ⟨Nat.zero_le _, Nat.zero_le _⟩ (fun H locs hw => ?_)
      exact wretV_W C hw h dX11_ends_24
  · replace h := (if_neg c1).symm.trans h
    refine lv_aload_n hx hb dX11_ends_8 rfl (lv_at hl 0 rfl) ?_
    refine lv_iconst (v := 1) hx hb dX11_ends_9 (by decide) ?_
    obtain ⟨M8, e7, h⟩ := bnd_some h
    refine wcallV0 (As := [.int 1]) (rest := []) C hw (c_X11_fails hW  e7) vlX11_145 ⟨Nat.le_of_ble_eq_true rfl, Nat.le_of_ble_eq_true rfl⟩ (rfl : _ = some (0, 11)) rfl rfl rfl hl.1 (Nat.le_of_ble_eq_true rfl) dX11_ends_10 ⟨Nat.zero_le _, Nat.zero_le _⟩ (fun H locs hw => ?_)
    refine lv_aload_n hx hb dX11_ends_13 rfl (lv_at hl 0 rfl) ?_
    refine wgetI C hw flX11_129 (rfl : _ = some (0, 11)) dX11_ends_14 ?_
    refine lv_if_ne (tgt := 24) hx hb dX11_ends_17 (by decide) (fun c9 => ?_) (fun c9 => ?_)
    · replace h := (if_neg c9).symm.trans h
      exact wretV_W C hw h dX11_ends_24
    · replace h := (if_pos c9).symm.trans h
      refine lv_aload_n hx hb dX11_ends_20 rfl (lv_at hl 0 rfl) ?_
      obtain ⟨M12, e11, h⟩ := bnd_some h
      refine wcallV0 (As := []) (rest := []) C hw (c_X11_next hW  e11) vlX11_139 ⟨Nat.le_of_ble_eq_true rfl, Nat.le_of_ble_eq_true rfl⟩ (rfl : _ = some (0, 11)) rfl rfl rfl hl.1 (Nat.le_of_ble_eq_true rfl) dX11_ends_21 ⟨Nat.zero_le _, Nat.zero_le _⟩ (fun H locs hw => ?_)
      exact wretV_W C hw h dX11_ends_24
set_option maxRecDepth 100000 in
set_option maxHeartbeats 4000000 in
theorem c_X11_begins {l : Launch} {P : Wp} {E : State → Heap → Prop} (hW : Wok shR P E) {M : Mem} {M' : Mem} (h : f_X11_begins M = some M') : CT l shR P E yX11_begins bX11_begins 1 (none) 2 44 [.ref (P.2.2.1 0)] none M M' := by
  refine ct_of hW (by decide) (Nat.le_of_ble_eq_true rfl) (fun p e s m args below meth c C ls hl hw => ?_)
  have hx := C.1
  have hb := C.2.1
  replace hl : lv_has ls 1 [(0, .ref (P.2.2.1 0))] := hl
  refine lv_aload_n hx hb dX11_begins_0 rfl (lv_at hl 0 rfl) ?_
  refine lv_iconst (v := 0) hx hb dX11_begins_1 (by decide) ?_
  refine wputI C hw fpX11_129 (rfl : _ = some (0, 11)) dX11_begins_2 (fun M1 eM1 H locs hw => ?_)
  replace h := letv_at eM1 h
  refine lv_aload_n hx hb dX11_begins_5 rfl (lv_at hl 0 rfl) ?_
  refine lv_iconst (v := (-1)) hx hb dX11_begins_6 (by decide) ?_
  refine wputI C hw fpX11_132 (rfl : _ = some (0, 11)) dX11_begins_7 (fun M2 eM2 H locs hw => ?_)
  replace h := letv_at eM2 h
  refine lv_aload_n hx hb dX11_begins_10 rfl (lv_at hl 0 rfl) ?_
  refine lv_iconst (v := 0) hx hb dX11_begins_11 (by decide) ?_
  refine wputI C hw fpX11_101 (rfl : _ = some (0, 11)) dX11_begins_12 (fun M3 eM3 H locs hw => ?_)
  replace h := letv_at eM3 h
  refine lv_aload_n hx hb dX11_begins_15 rfl (lv_at hl 0 rfl) ?_
  obtain ⟨M6, e5, h⟩ := bnd_some h
  refine wcallV0 (As := []) (rest := []) C hw (c_X11_next hW  e5) vlX11_139 ⟨Nat.le_of_ble_eq_true rfl, Nat.le_of_ble_eq_true rfl⟩ (rfl : _ = some (0, 11)) rfl rfl rfl hl.1 (Nat.le_of_ble_eq_true rfl) dX11_begins_16 ⟨Nat.zero_le _, Nat.zero_le _⟩ (fun H locs hw => ?_)
  exact wretV_W C hw h dX11_begins_19
set_option maxRecDepth 100000 in
set_option maxHeartbeats 4000000 in
theorem c_X11_isOver {l : Launch} {P : Wp} {E : State → Heap → Prop} (hW : Wok shR P E) {M : Mem} {M' : Mem} (h : f_X11_isOver M = some M') : CT l shR P E yX11_isOver bX11_isOver 1 (none) 0 0 [.ref (P.2.2.1 0)] none M M' := by
  refine ct_of hW (by decide) (Nat.le_of_ble_eq_true rfl) (fun p e s m args below meth c C ls hl hw => ?_)
  have hx := C.1
  have hb := C.2.1
  replace hl : lv_has ls 1 [(0, .ref (P.2.2.1 0))] := hl
  refine lv_aload_n hx hb dX11_isOver_0 rfl (lv_at hl 0 rfl) ?_
  refine lv_iconst (v := 0) hx hb dX11_isOver_1 (by decide) ?_
  refine wputI C hw fpX11_94 (rfl : _ = some (0, 11)) dX11_isOver_2 (fun M1 eM1 H locs hw => ?_)
  replace h := letv_at eM1 h
  refine lv_aload_n hx hb dX11_isOver_5 rfl (lv_at hl 0 rfl) ?_
  refine lv_aload_n hx hb dX11_isOver_6 rfl (lv_at hl 0 rfl) ?_
  refine wgetI C hw flX11_129 (rfl : _ = some (0, 11)) dX11_isOver_7 ?_
  refine wputI C hw fpX11_156 (rfl : _ = some (0, 11)) dX11_isOver_10 (fun M2 eM2 H locs hw => ?_)
  replace h := letv_at eM2 h
  refine lv_aload_n hx hb dX11_isOver_13 rfl (lv_at hl 0 rfl) ?_
  refine lv_aload_n hx hb dX11_isOver_14 rfl (lv_at hl 0 rfl) ?_
  refine wgetI C hw flX11_129 (rfl : _ = some (0, 11)) dX11_isOver_15 ?_
  refine lv_if_ne (tgt := 25) hx hb dX11_isOver_18 (by decide) (fun c3 => ?_) (fun c3 => ?_)
  · replace h := (if_neg c3).symm.trans h
    refine lv_aload_n hx hb dX11_isOver_25 rfl (lv_at hl 0 rfl) ?_
    refine wgetI C hw flX11_132 (rfl : _ = some (0, 11)) dX11_isOver_26 ?_
    refine wputI C hw fpX11_27 (rfl : _ = some (0, 11)) dX11_isOver_29 (fun M4 eM4 H locs hw => ?_)
    replace h := letv_at eM4 h
    exact wretV_W C hw h dX11_isOver_32
  · replace h := (if_pos c3).symm.trans h
    refine lv_iconst (v := (-1)) hx hb dX11_isOver_21 (by decide) ?_
    refine lv_goto (tgt := 29) hx hb dX11_isOver_22 (by decide) ?_
    refine wputI C hw fpX11_27 (rfl : _ = some (0, 11)) dX11_isOver_29 (fun M5 eM5 H locs hw => ?_)
    replace h := letv_at eM5 h
    exact wretV_W C hw h dX11_isOver_32
set_option maxRecDepth 100000 in
set_option maxHeartbeats 4000000 in
theorem c_X11_fault {l : Launch} {P : Wp} {E : State → Heap → Prop} (hW : Wok shR P E) {p1 : Int32} {M : Mem} {r : Int32} {M' : Mem} (h : f_X11_fault p1 M = some (r, M')) : CT l shR P E yX11_fault bX11_fault 2 ((some .int)) 0 0 [.ref (P.2.2.1 0), .int p1] (some (.int r)) M M' := by
  refine ct_of hW (by decide) (Nat.le_of_ble_eq_true rfl) (fun p e s m args below meth c C ls hl hw => ?_)
  have hx := C.1
  have hb := C.2.1
  replace hl : lv_has ls 2 [(0, .ref (P.2.2.1 0)), (1, .int p1)] := hl
  refine lv_aload_n hx hb dX11_fault_0 rfl (lv_at hl 0 rfl) ?_
  refine lv_iconst (v := 0) hx hb dX11_fault_1 (by decide) ?_
  refine wputI C hw fpX11_77 (rfl : _ = some (0, 11)) dX11_fault_2 (fun M1 eM1 H locs hw => ?_)
  replace h := letv_at eM1 h
  refine lv_iload_n hx hb dX11_fault_5 rfl (lv_at hl 1 rfl) ?_
  refine lv_if_ne (tgt := 16) hx hb dX11_fault_6 (by decide) (fun c2 => ?_) (fun c2 => ?_)
  · replace h := (if_neg c2).symm.trans h
    refine lv_iload_n hx hb dX11_fault_16 rfl (lv_at hl 1 rfl) ?_
    refine lv_iconst (v := 1) hx hb dX11_fault_17 (by decide) ?_
    refine lv_icmp_ne (tgt := 28) hx hb dX11_fault_18 (by decide) (fun c3 => ?_) (fun c3 => ?_)
    · replace h := (if_neg c3).symm.trans h
      refine lv_iconst (v := (-1)) hx hb dX11_fault_28 (by decide) ?_
      exact wretI_W C hw h dX11_fault_29
    · replace h := (if_pos c3).symm.trans h
      refine lv_aload_n hx hb dX11_fault_21 rfl (lv_at hl 0 rfl) ?_
      refine wgetI C hw flX11_27 (rfl : _ = some (0, 11)) dX11_fault_22 ?_
      refine lv_goto (tgt := 29) hx hb dX11_fault_25 (by decide) ?_
      exact wretI_W C hw h dX11_fault_29
  · replace h := (if_pos c2).symm.trans h
    refine lv_aload_n hx hb dX11_fault_9 rfl (lv_at hl 0 rfl) ?_
    refine wgetI C hw flX11_156 (rfl : _ = some (0, 11)) dX11_fault_10 ?_
    refine lv_goto (tgt := 29) hx hb dX11_fault_13 (by decide) ?_
    exact wretI_W C hw h dX11_fault_29
set_option maxRecDepth 100000 in
set_option maxHeartbeats 4000000 in
theorem c_X11_hasRead {l : Launch} {P : Wp} {E : State → Heap → Prop} (hW : Wok shR P E) {p1 : Int32} {M : Mem} {r : Int32} (h : f_X11_hasRead p1 M = some r) : CT l shR P E yX11_hasRead bX11_hasRead 2 ((some .int)) 0 0 [.ref (P.2.2.1 0), .int p1] (some (.int r)) M M := by
  refine ct_of hW (by decide) (Nat.le_of_ble_eq_true rfl) (fun p e s m args below meth c C ls hl hw => ?_)
  have hx := C.1
  have hb := C.2.1
  replace hl : lv_has ls 2 [(0, .ref (P.2.2.1 0)), (1, .int p1)] := hl
  refine lv_aload_n hx hb dX11_hasRead_0 rfl (lv_at hl 0 rfl) ?_
  refine wgetR (t := 7) C hw flX11_34 (rfl : _ = some (0, 11)) rfl dX11_hasRead_1 ?_
  refine lv_bipush (v := 32) hx hb dX11_hasRead_4 (by decide) ?_
  refine lv_iload_n hx hb dX11_hasRead_6 rfl (lv_at hl 1 rfl) ?_
  refine lv_iadd hx hb dX11_hasRead_7 ?_
  obtain ⟨g1, h⟩ := grd h
  refine wald C hw (rfl : _ = some (1, 40)) g1 dX11_hasRead_8 ?_
  exact wretI_R C hw h dX11_hasRead_9
set_option maxRecDepth 100000 in
set_option maxHeartbeats 4000000 in
theorem c_X11_tells {l : Launch} {P : Wp} {E : State → Heap → Prop} (hW : Wok shR P E) {p1 : Int32} {p2 : Int32} {M : Mem} {M' : Mem} (h : f_X11_tells p1 p2 M = some M') : CT l shR P E yX11_tells bX11_tells 3 (none) 0 0 [.ref (P.2.2.1 0), .int p1, .int p2] none M M' := by
  refine ct_of hW (by decide) (Nat.le_of_ble_eq_true rfl) (fun p e s m args below meth c C ls hl hw => ?_)
  have hx := C.1
  have hb := C.2.1
  replace hl : lv_has ls 3 [(0, .ref (P.2.2.1 0)), (1, .int p1), (2, .int p2)] := hl
  refine lv_aload_n hx hb dX11_tells_0 rfl (lv_at hl 0 rfl) ?_
  refine wgetR (t := 7) C hw flX11_34 (rfl : _ = some (0, 11)) rfl dX11_tells_1 ?_
  refine lv_bipush (v := 32) hx hb dX11_tells_4 (by decide) ?_
  refine lv_iload_n hx hb dX11_tells_6 rfl (lv_at hl 1 rfl) ?_
  refine lv_iadd hx hb dX11_tells_7 ?_
  refine lv_iload_n hx hb dX11_tells_8 rfl (lv_at hl 2 rfl) ?_
  obtain ⟨g2, h⟩ := grd h
  refine wast C hw (rfl : _ = some (1, 40)) g2 dX11_tells_9 (fun M1 eM1 H locs hw => ?_)
  replace h := letv_at eM1 h
  exact wretV_W C hw h dX11_tells_10
set_option maxRecDepth 100000 in
set_option maxHeartbeats 4000000 in
theorem c_X11_pieceLine {l : Launch} {P : Wp} {E : State → Heap → Prop} (hW : Wok shR P E) {M : Mem} {M' : Mem} (h : f_X11_pieceLine M = some M') : CT l shR P E yX11_pieceLine bX11_pieceLine 2 (none) 5 112 [.ref (P.2.2.1 0)] none M M' := by
  refine ct_of hW (by decide) (Nat.le_of_ble_eq_true rfl) (fun p e s m args below meth c C ls hl hw => ?_)
  have hx := C.1
  have hb := C.2.1
  replace hl : lv_has ls 2 [(0, .ref (P.2.2.1 0))] := hl
  refine lv_iconst (v := 4) hx hb dX11_pieceLine_0 (by decide) ?_
  refine lv_bipush (v := 24) hx hb dX11_pieceLine_1 (by decide) ?_
  refine lv_aload_n hx hb dX11_pieceLine_3 rfl (lv_at hl 0 rfl) ?_
  refine lv_bipush (v := 6) hx hb dX11_pieceLine_4 (by decide) ?_
  obtain ⟨r1, e2, h⟩ := bnd_some h
  refine wcallV1 (As := [.int 6]) (rest := [.int 24, .int 4]) C hw (c_X11_hasRead hW  e2) vlX11_159 ⟨Nat.le_of_ble_eq_true rfl, Nat.le_of_ble_eq_true rfl⟩ (rfl : _ = some (0, 11)) rfl rfl rfl hl.1 (Nat.le_of_ble_eq_true rfl) dX11_pieceLine_6 ⟨Nat.zero_le _, Nat.zero_le _⟩ (fun H locs hw => ?_)
  refine lv_iadd hx hb dX11_pieceLine_9 ?_
  refine lv_imul hx hb dX11_pieceLine_10 ?_
  refine lv_topi (fun x3 ex3 => ?_)
  replace h := letv_at ex3 h
  refine lv_istore_n (lv' := [(1, .int x3), (0, .ref (P.2.2.1 0))]) hx hb dX11_pieceLine_11 rfl hl (by decide) rfl (fun ls hl => ?_)
  refine lv_aload_n hx hb dX11_pieceLine_12 rfl (lv_at hl 1 rfl) ?_
  refine wgetR (t := 9) C hw flX11_40 (rfl : _ = some (0, 11)) rfl dX11_pieceLine_13 ?_
  refine lv_iload_n hx hb dX11_pieceLine_16 rfl (lv_at hl 0 rfl) ?_
  refine lv_aload_n hx hb dX11_pieceLine_17 rfl (lv_at hl 1 rfl) ?_
  refine lv_ldc2 hx hb C.2.2.2.1 (C.2.2.2.2.1 _ (List.mem_cons_of_mem _ (gm kcX11_163 rfl))) dX11_pieceLine_18 ?_
  refine lv_iconst (v := 0) hx hb dX11_pieceLine_21 (by decide) ?_
  refine lv_sipush (v := 600) hx hb dX11_pieceLine_22 (by decide) ?_
  obtain ⟨r4, M6, e5, h⟩ := bnd2_some h
  refine wcallV1 (As := [.long 161156, .int 0, .int 600]) (rest := [.int x3, .ref (P.2.2.1 9)]) C hw (c_X11_number_ hW  e5) vlX11_165 ⟨Nat.le_of_ble_eq_true rfl, Nat.le_of_ble_eq_true rfl⟩ (rfl : _ = some (0, 11)) rfl rfl rfl hl.1 (Nat.le_of_ble_eq_true rfl) dX11_pieceLine_25 ⟨Nat.zero_le _, Nat.zero_le _⟩ (fun H locs hw => ?_)
  obtain ⟨g8, h⟩ := grd h
  refine wast C hw (rfl : _ = some (1, 120)) g8 dX11_pieceLine_28 (fun M7 eM7 H locs hw => ?_)
  replace h := letv_at eM7 h
  refine lv_aload_n hx hb dX11_pieceLine_29 rfl (lv_at hl 1 rfl) ?_
  refine wgetR (t := 9) C hw flX11_40 (rfl : _ = some (0, 11)) rfl dX11_pieceLine_30 ?_
  refine lv_iload_n hx hb dX11_pieceLine_33 rfl (lv_at hl 0 rfl) ?_
  refine lv_iconst (v := 1) hx hb dX11_pieceLine_34 (by decide) ?_
  refine lv_iadd hx hb dX11_pieceLine_35 ?_
  refine lv_aload_n hx hb dX11_pieceLine_36 rfl (lv_at hl 1 rfl) ?_
  refine lv_ldc2 hx hb C.2.2.2.1 (C.2.2.2.2.1 _ (List.mem_cons_of_mem _ (gm kcX11_168 rfl))) dX11_pieceLine_37 ?_
  refine lv_iconst (v := 1) hx hb dX11_pieceLine_40 (by decide) ?_
  refine lv_bipush (v := 9) hx hb dX11_pieceLine_41 (by decide) ?_
  obtain ⟨r9, M11, e10, h⟩ := bnd2_some h
  refine wcallV1 (As := [.long 10792937, .int 1, .int 9]) (rest := [.int (x3 + (1 : Int32)), .ref (P.2.2.1 9)]) C hw (c_X11_number_ hW  e10) vlX11_165 ⟨Nat.le_of_ble_eq_true rfl, Nat.le_of_ble_eq_true rfl⟩ (rfl : _ = some (0, 11)) rfl rfl rfl hl.1 (Nat.le_of_ble_eq_true rfl) dX11_pieceLine_43 ⟨Nat.zero_le _, Nat.zero_le _⟩ (fun H locs hw => ?_)
  obtain ⟨g13, h⟩ := grd h
  refine wast C hw (rfl : _ = some (1, 120)) g13 dX11_pieceLine_46 (fun M12 eM12 H locs hw => ?_)
  replace h := letv_at eM12 h
  refine lv_aload_n hx hb dX11_pieceLine_47 rfl (lv_at hl 1 rfl) ?_
  refine wgetR (t := 9) C hw flX11_40 (rfl : _ = some (0, 11)) rfl dX11_pieceLine_48 ?_
  refine lv_iload_n hx hb dX11_pieceLine_51 rfl (lv_at hl 0 rfl) ?_
  refine lv_iconst (v := 2) hx hb dX11_pieceLine_52 (by decide) ?_
  refine lv_iadd hx hb dX11_pieceLine_53 ?_
  refine lv_aload_n hx hb dX11_pieceLine_54 rfl (lv_at hl 1 rfl) ?_
  refine lv_ldc2 hx hb C.2.2.2.1 (C.2.2.2.2.1 _ (List.mem_cons_of_mem _ (gm kcX11_170 rfl))) dX11_pieceLine_55 ?_
  refine lv_iconst (v := 0) hx hb dX11_pieceLine_58 (by decide) ?_
  refine lv_sipush (v := 300) hx hb dX11_pieceLine_59 (by decide) ?_
  obtain ⟨r14, M16, e15, h⟩ := bnd2_some h
  refine wcallV1 (As := [.long 1162531, .int 0, .int 300]) (rest := [.int (x3 + (2 : Int32)), .ref (P.2.2.1 9)]) C hw (c_X11_number_ hW  e15) vlX11_165 ⟨Nat.le_of_ble_eq_true rfl, Nat.le_of_ble_eq_true rfl⟩ (rfl : _ = some (0, 11)) rfl rfl rfl hl.1 (Nat.le_of_ble_eq_true rfl) dX11_pieceLine_62 ⟨Nat.zero_le _, Nat.zero_le _⟩ (fun H locs hw => ?_)
  obtain ⟨g18, h⟩ := grd h
  refine wast C hw (rfl : _ = some (1, 120)) g18 dX11_pieceLine_65 (fun M17 eM17 H locs hw => ?_)
  replace h := letv_at eM17 h
  refine lv_aload_n hx hb dX11_pieceLine_66 rfl (lv_at hl 1 rfl) ?_
  refine wgetR (t := 9) C hw flX11_40 (rfl : _ = some (0, 11)) rfl dX11_pieceLine_67 ?_
  refine lv_iload_n hx hb dX11_pieceLine_70 rfl (lv_at hl 0 rfl) ?_
  refine lv_iconst (v := 3) hx hb dX11_pieceLine_71 (by decide) ?_
  refine lv_iadd hx hb dX11_pieceLine_72 ?_
  refine lv_aload_n hx hb dX11_pieceLine_73 rfl (lv_at hl 1 rfl) ?_
  refine lv_ldc2 hx hb C.2.2.2.1 (C.2.2.2.2.1 _ (List.mem_cons_of_mem _ (gm kcX11_172 rfl))) dX11_pieceLine_74 ?_
  refine lv_iconst (v := 0) hx hb dX11_pieceLine_77 (by decide) ?_
  refine lv_bipush (v := 14) hx hb dX11_pieceLine_78 (by decide) ?_
  obtain ⟨r19, M21, e20, h⟩ := bnd2_some h
  refine wcallV1 (As := [.long 47, .int 0, .int 14]) (rest := [.int (x3 + (3 : Int32)), .ref (P.2.2.1 9)]) C hw (c_X11_number_ hW  e20) vlX11_165 ⟨Nat.le_of_ble_eq_true rfl, Nat.le_of_ble_eq_true rfl⟩ (rfl : _ = some (0, 11)) rfl rfl rfl hl.1 (Nat.le_of_ble_eq_true rfl) dX11_pieceLine_80 ⟨Nat.zero_le _, Nat.zero_le _⟩ (fun H locs hw => ?_)
  obtain ⟨g23, h⟩ := grd h
  refine wast C hw (rfl : _ = some (1, 120)) g23 dX11_pieceLine_83 (fun M22 eM22 H locs hw => ?_)
  replace h := letv_at eM22 h
  refine lv_aload_n hx hb dX11_pieceLine_84 rfl (lv_at hl 1 rfl) ?_
  refine lv_bipush (v := 6) hx hb dX11_pieceLine_85 (by decide) ?_
  refine lv_aload_n hx hb dX11_pieceLine_87 rfl (lv_at hl 1 rfl) ?_
  refine lv_bipush (v := 6) hx hb dX11_pieceLine_88 (by decide) ?_
  obtain ⟨r24, e25, h⟩ := bnd_some h
  refine wcallV1 (As := [.int 6]) (rest := [.int 6, .ref (P.2.2.1 0)]) C hw (c_X11_hasRead hW  e25) vlX11_159 ⟨Nat.le_of_ble_eq_true rfl, Nat.le_of_ble_eq_true rfl⟩ (rfl : _ = some (0, 11)) rfl rfl rfl hl.1 (Nat.le_of_ble_eq_true rfl) dX11_pieceLine_90 ⟨Nat.zero_le _, Nat.zero_le _⟩ (fun H locs hw => ?_)
  refine lv_iconst (v := 1) hx hb dX11_pieceLine_93 (by decide) ?_
  refine lv_iadd hx hb dX11_pieceLine_94 ?_
  obtain ⟨M28, e27, h⟩ := bnd_some h
  refine wcallV0 (As := [.int 6, .int (r24 + (1 : Int32))]) (rest := []) C hw (c_X11_tells hW  e27) vlX11_174 ⟨Nat.le_of_ble_eq_true rfl, Nat.le_of_ble_eq_true rfl⟩ (rfl : _ = some (0, 11)) rfl rfl rfl hl.1 (Nat.le_of_ble_eq_true rfl) dX11_pieceLine_95 ⟨Nat.zero_le _, Nat.zero_le _⟩ (fun H locs hw => ?_)
  exact wretV_W C hw h dX11_pieceLine_98
set_option maxRecDepth 100000 in
set_option maxHeartbeats 4000000 in
theorem c_X11_isRoom {l : Launch} {P : Wp} {E : State → Heap → Prop} (hW : Wok shR P E) {p1 : Int32} {p2 : Int32} {p3 : Int32} {M : Mem} {r : Int32} {M' : Mem} (h : f_X11_isRoom p1 p2 p3 M = some (r, M')) : CT l shR P E yX11_isRoom bX11_isRoom 4 ((some .boolean)) 2 44 [.ref (P.2.2.1 0), .int p1, .int p2, .int p3] (some (.int r)) M M' := by
  refine ct_of hW (by decide) (Nat.le_of_ble_eq_true rfl) (fun p e s m args below meth c C ls hl hw => ?_)
  have hx := C.1
  have hb := C.2.1
  replace hl : lv_has ls 4 [(0, .ref (P.2.2.1 0)), (1, .int p1), (2, .int p2), (3, .int p3)] := hl
  have cut_33 : ∀ (M_33 : Mem) (ls : Array Slot) (H : Heap) (locs : List Loc), lv_has ls 4 [(0, .ref (P.2.2.1 0)), (1, .int p1)] → Hw shR P M_33 s H locs → J_X11_isRoom_33 p1 p2 p3 M_33 = some (r, M') → W p l e { frames := 2, cells := 0, slots := 0, locals := 44 } s m args below meth c H locs 0 0 (MQ below (CQ shR P E (some (.int r)) M') args s 0 0 (wA shR P)) (F0 m 33 ls []) := by
    intro M_33 ls H locs hl hw h
    refine lv_iload_n hx hb dX11_isRoom_33 rfl (lv_at hl 1 rfl) ?_
    refine lv_if_eq (tgt := 48) hx hb dX11_isRoom_34 (by decide) (fun c3 => ?_) (fun c3 => ?_)
    · replace h := (if_pos c3).symm.trans h
      refine lv_iconst (v := 0) hx hb dX11_isRoom_48 (by decide) ?_
      exact wretZ_W C hw (Or.inl rfl) h dX11_isRoom_49
    · replace h := (if_neg c3).symm.trans h
      refine lv_aload_n hx hb dX11_isRoom_37 rfl (lv_at hl 0 rfl) ?_
      refine wgetI C hw flX11_129 (rfl : _ = some (0, 11)) dX11_isRoom_38 ?_
      refine lv_if_ne (tgt := 48) hx hb dX11_isRoom_41 (by decide) (fun c4 => ?_) (fun c4 => ?_)
      · replace h := (if_neg c4).symm.trans h
        refine lv_iconst (v := 0) hx hb dX11_isRoom_48 (by decide) ?_
        exact wretZ_W C hw (Or.inl rfl) h dX11_isRoom_49
      · replace h := (if_pos c4).symm.trans h
        refine lv_iconst (v := 1) hx hb dX11_isRoom_44 (by decide) ?_
        refine lv_goto (tgt := 49) hx hb dX11_isRoom_45 (by decide) ?_
        exact wretZ_W C hw (Or.inr rfl) h dX11_isRoom_49
  have cut_18 : ∀ (M_18 : Mem) (ls : Array Slot) (H : Heap) (locs : List Loc), lv_has ls 4 [(0, .ref (P.2.2.1 0)), (1, .int p1)] → Hw shR P M_18 s H locs → J_X11_isRoom_18 p1 p2 p3 M_18 = some (r, M') → W p l e { frames := 2, cells := 0, slots := 0, locals := 44 } s m args below meth c H locs 0 0 (MQ below (CQ shR P E (some (.int r)) M') args s 0 0 (wA shR P)) (F0 m 18 ls []) := by
    intro M_18 ls H locs hl hw h
    refine lv_iload_n hx hb dX11_isRoom_18 rfl (lv_at hl 1 rfl) ?_
    refine lv_if_eq (tgt := 33) hx hb dX11_isRoom_19 (by decide) (fun c2 => ?_) (fun c2 => ?_)
    · replace h := (if_pos c2).symm.trans h
      exact cut_33 M_18 ls _ _ (lv_sub hl [0, 1] rfl) hw h
    · replace h := (if_neg c2).symm.trans h
      refine lv_aload_n hx hb dX11_isRoom_22 rfl (lv_at hl 0 rfl) ?_
      refine wgetI C hw flX11_129 (rfl : _ = some (0, 11)) dX11_isRoom_23 ?_
      refine lv_if_ne (tgt := 33) hx hb dX11_isRoom_26 (by decide) (fun c5 => ?_) (fun c5 => ?_)
      · replace h := (if_neg c5).symm.trans h
        exact cut_33 M_18 ls _ _ (lv_sub hl [0, 1] rfl) hw h
      · replace h := (if_pos c5).symm.trans h
        refine lv_aload_n hx hb dX11_isRoom_29 rfl (lv_at hl 0 rfl) ?_
        obtain ⟨M8, e7, h⟩ := bnd_some h
        refine wcallV0 (As := []) (rest := []) C hw (c_X11_next hW  e7) vlX11_139 ⟨Nat.le_of_ble_eq_true rfl, Nat.le_of_ble_eq_true rfl⟩ (rfl : _ = some (0, 11)) rfl rfl rfl hl.1 (Nat.le_of_ble_eq_true rfl) dX11_isRoom_30 ⟨Nat.zero_le _, Nat.zero_le _⟩ (fun H locs hw => ?_)
        exact cut_33 M8 ls _ _ (lv_sub hl [0, 1] rfl) hw h
  refine lv_iload_n hx hb dX11_isRoom_0 rfl (lv_at hl 1 rfl) ?_
  refine lv_if_eq (tgt := 18) hx hb dX11_isRoom_1 (by decide) (fun c1 => ?_) (fun c1 => ?_)
  · replace h := (if_pos c1).symm.trans h
    exact cut_18 M ls _ _ (lv_sub hl [0, 1] rfl) hw h
  · replace h := (if_neg c1).symm.trans h
    refine lv_aload_n hx hb dX11_isRoom_4 rfl (lv_at hl 0 rfl) ?_
    refine lv_iload_n hx hb dX11_isRoom_5 rfl (lv_at hl 2 rfl) ?_
    obtain ⟨r9, e10, h⟩ := bnd_some h
    refine wcallV1 (As := [.int p2]) (rest := []) C hw (c_X11_hasRead hW  e10) vlX11_159 ⟨Nat.le_of_ble_eq_true rfl, Nat.le_of_ble_eq_true rfl⟩ (rfl : _ = some (0, 11)) rfl rfl rfl hl.1 (Nat.le_of_ble_eq_true rfl) dX11_isRoom_6 ⟨Nat.zero_le _, Nat.zero_le _⟩ (fun H locs hw => ?_)
    refine lv_iload_n hx hb dX11_isRoom_9 rfl (lv_at hl 3 rfl) ?_
    refine lv_icmp_ne (tgt := 18) hx hb dX11_isRoom_10 (by decide) (fun c11 => ?_) (fun c11 => ?_)
    · replace h := (if_neg c11).symm.trans h
      exact cut_18 M ls _ _ (lv_sub hl [0, 1] rfl) hw h
    · replace h := (if_pos c11).symm.trans h
      refine lv_aload_n hx hb dX11_isRoom_13 rfl (lv_at hl 0 rfl) ?_
      refine lv_iconst (v := 3) hx hb dX11_isRoom_14 (by decide) ?_
      obtain ⟨M14, e13, h⟩ := bnd_some h
      refine wcallV0 (As := [.int 3]) (rest := []) C hw (c_X11_fails hW  e13) vlX11_145 ⟨Nat.le_of_ble_eq_true rfl, Nat.le_of_ble_eq_true rfl⟩ (rfl : _ = some (0, 11)) rfl rfl rfl hl.1 (Nat.le_of_ble_eq_true rfl) dX11_isRoom_15 ⟨Nat.zero_le _, Nat.zero_le _⟩ (fun H locs hw => ?_)
      exact cut_18 M14 ls _ _ (lv_sub hl [0, 1] rfl) hw h
set_option maxRecDepth 100000 in
set_option maxHeartbeats 4000000 in
theorem c_X11_lineHere {l : Launch} {P : Wp} {E : State → Heap → Prop} (hW : Wok shR P E) {M : Mem} {M' : Mem} (h : f_X11_lineHere M = some M') : CT l shR P E yX11_lineHere bX11_lineHere 1 (none) 6 133 [.ref (P.2.2.1 0)] none M M' := by
  refine ct_of hW (by decide) (Nat.le_of_ble_eq_true rfl) (fun p e s m args below meth c C ls hl hw => ?_)
  have hx := C.1
  have hb := C.2.1
  replace hl : lv_has ls 1 [(0, .ref (P.2.2.1 0))] := hl
  refine lv_aload_n hx hb dX11_lineHere_0 rfl (lv_at hl 0 rfl) ?_
  refine lv_aload_n hx hb dX11_lineHere_1 rfl (lv_at hl 0 rfl) ?_
  refine lv_ldc2 hx hb C.2.2.2.1 (C.2.2.2.2.1 _ (List.mem_cons_of_mem _ (gm kcX11_178 rfl))) dX11_lineHere_2 ?_
  refine wcallV1 (As := [.long 523076]) (rest := [.ref (P.2.2.1 0)]) C hw (c_X11_is hW  rfl) vlX11_135 ⟨Nat.le_of_ble_eq_true rfl, Nat.le_of_ble_eq_true rfl⟩ (rfl : _ = some (0, 11)) rfl rfl rfl hl.1 (Nat.le_of_ble_eq_true rfl) dX11_lineHere_5 ⟨Nat.zero_le _, Nat.zero_le _⟩ (fun H locs hw => ?_)
  refine lv_iconst (v := 5) hx hb dX11_lineHere_8 (by decide) ?_
  refine lv_bipush (v := 7) hx hb dX11_lineHere_9 (by decide) ?_
  obtain ⟨r1, M3, e2, h⟩ := bnd2_some h
  refine wcallV1 (As := [.int (f_X11_is (523076 : Int64) M), .int 5, .int 7]) (rest := []) C hw (c_X11_isRoom hW  e2) vlX11_180 ⟨Nat.le_of_ble_eq_true rfl, Nat.le_of_ble_eq_true rfl⟩ (rfl : _ = some (0, 11)) rfl rfl rfl hl.1 (Nat.le_of_ble_eq_true rfl) dX11_lineHere_11 ⟨Nat.zero_le _, Nat.zero_le _⟩ (fun H locs hw => ?_)
  refine lv_if_eq (tgt := 53) hx hb dX11_lineHere_14 (by decide) (fun c4 => ?_) (fun c4 => ?_)
  · replace h := (if_pos c4).symm.trans h
    refine lv_aload_n hx hb dX11_lineHere_53 rfl (lv_at hl 0 rfl) ?_
    refine wgetI C hw flX11_129 (rfl : _ = some (0, 11)) dX11_lineHere_54 ?_
    refine lv_if_ne (tgt := 85) hx hb dX11_lineHere_57 (by decide) (fun c5 => ?_) (fun c5 => ?_)
    · replace h := (if_neg c5).symm.trans h
      refine lv_aload_n hx hb dX11_lineHere_85 rfl (lv_at hl 0 rfl) ?_
      refine wgetI C hw flX11_129 (rfl : _ = some (0, 11)) dX11_lineHere_86 ?_
      refine lv_if_ne (tgt := 97) hx hb dX11_lineHere_89 (by decide) (fun c6 => ?_) (fun c6 => ?_)
      · replace h := (if_neg c6).symm.trans h
        exact wretV_W C hw h dX11_lineHere_97
      · replace h := (if_pos c6).symm.trans h
        refine lv_aload_n hx hb dX11_lineHere_92 rfl (lv_at hl 0 rfl) ?_
        refine lv_iconst (v := 1) hx hb dX11_lineHere_93 (by decide) ?_
        obtain ⟨M9, e8, h⟩ := bnd_some h
        refine wcallV0 (As := [.int 1]) (rest := []) C hw (c_X11_fails hW  e8) vlX11_145 ⟨Nat.le_of_ble_eq_true rfl, Nat.le_of_ble_eq_true rfl⟩ (rfl : _ = some (0, 11)) rfl rfl rfl hl.1 (Nat.le_of_ble_eq_true rfl) dX11_lineHere_94 ⟨Nat.zero_le _, Nat.zero_le _⟩ (fun H locs hw => ?_)
        exact wretV_W C hw h dX11_lineHere_97
    · replace h := (if_pos c5).symm.trans h
      refine lv_aload_n hx hb dX11_lineHere_60 rfl (lv_at hl 0 rfl) ?_
      refine lv_aload_n hx hb dX11_lineHere_61 rfl (lv_at hl 0 rfl) ?_
      refine lv_ldc2 hx hb C.2.2.2.1 (C.2.2.2.2.1 _ (List.mem_cons_of_mem _ (gm kcX11_184 rfl))) dX11_lineHere_62 ?_
      refine wcallV1 (As := [.long 8683934]) (rest := [.ref (P.2.2.1 0)]) C hw (c_X11_is hW  rfl) vlX11_135 ⟨Nat.le_of_ble_eq_true rfl, Nat.le_of_ble_eq_true rfl⟩ (rfl : _ = some (0, 11)) rfl rfl rfl hl.1 (Nat.le_of_ble_eq_true rfl) dX11_lineHere_65 ⟨Nat.zero_le _, Nat.zero_le _⟩ (fun H locs hw => ?_)
      refine lv_bipush (v := 6) hx hb dX11_lineHere_68 (by decide) ?_
      refine lv_bipush (v := 6) hx hb dX11_lineHere_70 (by decide) ?_
      obtain ⟨r10, M12, e11, h⟩ := bnd2_some h
      refine wcallV1 (As := [.int (f_X11_is (8683934 : Int64) M3), .int 6, .int 6]) (rest := []) C hw (c_X11_isRoom hW  e11) vlX11_180 ⟨Nat.le_of_ble_eq_true rfl, Nat.le_of_ble_eq_true rfl⟩ (rfl : _ = some (0, 11)) rfl rfl rfl hl.1 (Nat.le_of_ble_eq_true rfl) dX11_lineHere_72 ⟨Nat.zero_le _, Nat.zero_le _⟩ (fun H locs hw => ?_)
      refine lv_if_eq (tgt := 85) hx hb dX11_lineHere_75 (by decide) (fun c13 => ?_) (fun c13 => ?_)
      · replace h := (if_pos c13).symm.trans h
        refine lv_aload_n hx hb dX11_lineHere_85 rfl (lv_at hl 0 rfl) ?_
        refine wgetI C hw flX11_129 (rfl : _ = some (0, 11)) dX11_lineHere_86 ?_
        refine lv_if_ne (tgt := 97) hx hb dX11_lineHere_89 (by decide) (fun c14 => ?_) (fun c14 => ?_)
        · replace h := (if_neg c14).symm.trans h
          exact wretV_W C hw h dX11_lineHere_97
        · replace h := (if_pos c14).symm.trans h
          refine lv_aload_n hx hb dX11_lineHere_92 rfl (lv_at hl 0 rfl) ?_
          refine lv_iconst (v := 1) hx hb dX11_lineHere_93 (by decide) ?_
          obtain ⟨M17, e16, h⟩ := bnd_some h
          refine wcallV0 (As := [.int 1]) (rest := []) C hw (c_X11_fails hW  e16) vlX11_145 ⟨Nat.le_of_ble_eq_true rfl, Nat.le_of_ble_eq_true rfl⟩ (rfl : _ = some (0, 11)) rfl rfl rfl hl.1 (Nat.le_of_ble_eq_true rfl) dX11_lineHere_94 ⟨Nat.zero_le _, Nat.zero_le _⟩ (fun H locs hw => ?_)
          exact wretV_W C hw h dX11_lineHere_97
      · replace h := (if_neg c13).symm.trans h
        refine lv_aload_n hx hb dX11_lineHere_78 rfl (lv_at hl 0 rfl) ?_
        obtain ⟨M20, e19, h⟩ := bnd_some h
        refine wcallV0 (As := []) (rest := []) C hw (c_X11_pieceLine hW  e19) vlX11_186 ⟨Nat.le_of_ble_eq_true rfl, Nat.le_of_ble_eq_true rfl⟩ (rfl : _ = some (0, 11)) rfl rfl rfl hl.1 (Nat.le_of_ble_eq_true rfl) dX11_lineHere_79 ⟨Nat.zero_le _, Nat.zero_le _⟩ (fun H locs hw => ?_)
        refine lv_goto (tgt := 97) hx hb dX11_lineHere_82 (by decide) ?_
        exact wretV_W C hw h dX11_lineHere_97
  · replace h := (if_neg c4).symm.trans h
    refine lv_aload_n hx hb dX11_lineHere_17 rfl (lv_at hl 0 rfl) ?_
    refine wgetR (t := 8) C hw flX11_37 (rfl : _ = some (0, 11)) rfl dX11_lineHere_18 ?_
    refine lv_bipush (v := 28) hx hb dX11_lineHere_21 (by decide) ?_
    refine lv_aload_n hx hb dX11_lineHere_23 rfl (lv_at hl 0 rfl) ?_
    refine lv_iconst (v := 5) hx hb dX11_lineHere_24 (by decide) ?_
    obtain ⟨r21, e22, h⟩ := bnd_some h
    refine wcallV1 (As := [.int 5]) (rest := [.int 28, .ref (P.2.2.1 8)]) C hw (c_X11_hasRead hW  e22) vlX11_159 ⟨Nat.le_of_ble_eq_true rfl, Nat.le_of_ble_eq_true rfl⟩ (rfl : _ = some (0, 11)) rfl rfl rfl hl.1 (Nat.le_of_ble_eq_true rfl) dX11_lineHere_25 ⟨Nat.zero_le _, Nat.zero_le _⟩ (fun H locs hw => ?_)
    refine lv_iadd hx hb dX11_lineHere_28 ?_
    refine lv_aload_n hx hb dX11_lineHere_29 rfl (lv_at hl 0 rfl) ?_
    refine lv_iconst (v := 0) hx hb dX11_lineHere_30 (by decide) ?_
    refine lv_sipush (v := 600) hx hb dX11_lineHere_31 (by decide) ?_
    obtain ⟨r23, M25, e24, h⟩ := bnd2_some h
    refine wcallV1 (As := [.int 0, .int 600]) (rest := [.int ((28 : Int32) + r21), .ref (P.2.2.1 8)]) C hw (c_X11_number hW  e24) vlX11_152 ⟨Nat.le_of_ble_eq_true rfl, Nat.le_of_ble_eq_true rfl⟩ (rfl : _ = some (0, 11)) rfl rfl rfl hl.1 (Nat.le_of_ble_eq_true rfl) dX11_lineHere_34 ⟨Nat.zero_le _, Nat.zero_le _⟩ (fun H locs hw => ?_)
    obtain ⟨g27, h⟩ := grd h
    refine wast C hw (rfl : _ = some (1, 35)) g27 dX11_lineHere_37 (fun M26 eM26 H locs hw => ?_)
    replace h := letv_at eM26 h
    refine lv_aload_n hx hb dX11_lineHere_38 rfl (lv_at hl 0 rfl) ?_
    refine lv_iconst (v := 5) hx hb dX11_lineHere_39 (by decide) ?_
    refine lv_aload_n hx hb dX11_lineHere_40 rfl (lv_at hl 0 rfl) ?_
    refine lv_iconst (v := 5) hx hb dX11_lineHere_41 (by decide) ?_
    obtain ⟨r28, e29, h⟩ := bnd_some h
    refine wcallV1 (As := [.int 5]) (rest := [.int 5, .ref (P.2.2.1 0)]) C hw (c_X11_hasRead hW  e29) vlX11_159 ⟨Nat.le_of_ble_eq_true rfl, Nat.le_of_ble_eq_true rfl⟩ (rfl : _ = some (0, 11)) rfl rfl rfl hl.1 (Nat.le_of_ble_eq_true rfl) dX11_lineHere_42 ⟨Nat.zero_le _, Nat.zero_le _⟩ (fun H locs hw => ?_)
    refine lv_iconst (v := 1) hx hb dX11_lineHere_45 (by decide) ?_
    refine lv_iadd hx hb dX11_lineHere_46 ?_
    obtain ⟨M32, e31, h⟩ := bnd_some h
    refine wcallV0 (As := [.int 5, .int (r28 + (1 : Int32))]) (rest := []) C hw (c_X11_tells hW  e31) vlX11_174 ⟨Nat.le_of_ble_eq_true rfl, Nat.le_of_ble_eq_true rfl⟩ (rfl : _ = some (0, 11)) rfl rfl rfl hl.1 (Nat.le_of_ble_eq_true rfl) dX11_lineHere_47 ⟨Nat.zero_le _, Nat.zero_le _⟩ (fun H locs hw => ?_)
    refine lv_goto (tgt := 97) hx hb dX11_lineHere_50 (by decide) ?_
    exact wretV_W C hw h dX11_lineHere_97
set_option maxRecDepth 100000 in
set_option maxHeartbeats 4000000 in
theorem c_X11_clears {l : Launch} {P : Wp} {E : State → Heap → Prop} (hW : Wok shR P E) {M : Mem} {M' : Mem} (h : f_X11_clears M = some M') : CT l shR P E yX11_clears bX11_clears 2 (none) 1 22 [.ref (P.2.2.1 0)] none M M' := by
  refine ct_of hW (by decide) (Nat.le_of_ble_eq_true rfl) (fun p e s m args below meth c C ls hl hw => ?_)
  have hx := C.1
  have hb := C.2.1
  replace hl : lv_has ls 2 [(0, .ref (P.2.2.1 0))] := hl
  have cut_9 : ∀ (n_9 : Nat) (v1_9 : Int32) (M_9 : Mem) (ls : Array Slot) (H : Heap) (locs : List Loc), lv_has ls 2 [(0, .ref (P.2.2.1 0)), (1, .int v1_9)] → Hw shR P M_9 s H locs → lq2 (L_X11_clears_9) n_9 v1_9 M_9 = some M' → W p l e { frames := 1, cells := 0, slots := 0, locals := 22 } s m args below meth c H locs 0 0 (MQ below (CQ shR P E none M') args s 0 0 (wA shR P)) (F0 m 9 ls []) := by
    intro n_9
    induction n_9 with
    | zero => intro v1_9 M_9 ls H locs hl hw h; cases h
    | succ n_9 ih_9 =>
      intro v1_9 M_9 ls H locs hl hw h
      replace h := lq2_succ h
      refine lv_iload_n hx hb dX11_clears_9 rfl (lv_at hl 1 rfl) ?_
      refine lv_bipush (v := 8) hx hb dX11_clears_10 (by decide) ?_
      refine lv_icmp_ge (tgt := 27) hx hb dX11_clears_12 (by decide) (fun c3 => ?_) (fun c3 => ?_)
      · replace h := (if_pos c3).symm.trans h
        exact wretV_W C hw h dX11_clears_27
      · replace h := (if_neg c3).symm.trans h
        refine lv_aload_n hx hb dX11_clears_15 rfl (lv_at hl 0 rfl) ?_
        refine lv_iload_n hx hb dX11_clears_16 rfl (lv_at hl 1 rfl) ?_
        refine lv_iconst (v := 0) hx hb dX11_clears_17 (by decide) ?_
        obtain ⟨M6, e5, h⟩ := bnd_some h
        refine wcallV0 (As := [.int v1_9, .int 0]) (rest := []) C hw (c_X11_tells hW  e5) vlX11_174 ⟨Nat.le_of_ble_eq_true rfl, Nat.le_of_ble_eq_true rfl⟩ (rfl : _ = some (0, 11)) rfl rfl rfl hl.1 (Nat.le_of_ble_eq_true rfl) dX11_clears_18 ⟨Nat.zero_le _, Nat.zero_le _⟩ (fun H locs hw => ?_)
        refine lv_iinc (v := (v1_9 + 1)) (lv' := [(1, .int (v1_9 + 1)), (0, .ref (P.2.2.1 0))]) (k := 1) hx hb dX11_clears_21 hl rfl (congrArg (fun z => v1_9 + z) (by decide)) (by decide) rfl (fun ls hl => ?_)
        refine lv_goto (tgt := 9) hx hb dX11_clears_24 (by decide) ?_
        exact ih_9 (v1_9 + 1) M6 ls _ _ (lv_sub hl [1, 0] rfl) hw h
  refine lv_aload_n hx hb dX11_clears_0 rfl (lv_at hl 0 rfl) ?_
  refine wgetR (t := 6) C hw flX11_31 (rfl : _ = some (0, 11)) rfl dX11_clears_1 ?_
  refine lv_iconst (v := 4) hx hb dX11_clears_4 (by decide) ?_
  refine lv_iconst (v := 0) hx hb dX11_clears_5 (by decide) ?_
  obtain ⟨g2, h⟩ := grd h
  refine wast C hw (rfl : _ = some (1, 5)) g2 dX11_clears_6 (fun M1 eM1 H locs hw => ?_)
  replace h := letv_at eM1 h
  refine lv_iconst (v := 0) hx hb dX11_clears_7 (by decide) ?_
  refine lv_istore_n (lv' := [(1, .int 0), (0, .ref (P.2.2.1 0))]) hx hb dX11_clears_8 rfl hl (by decide) rfl (fun ls hl => ?_)
  exact cut_9 FU 0 M1 ls _ _ (lv_sub hl [1, 0] rfl) hw h
set_option maxRecDepth 100000 in
set_option maxHeartbeats 4000000 in
theorem c_X11_copyRow {l : Launch} {P : Wp} {E : State → Heap → Prop} (hW : Wok shR P E) {p0 : Nat} {p1 : Int32} {p2 : Int32} {p3 : Int32} {M : Mem} {M' : Mem} {np0 : Nat} (hp0 : shR.1[p0]? = some (1, np0)) (h : f_X11_copyRow p0 p1 p2 p3 np0 M = some M') : CT l shR P E yX11_copyRow bX11_copyRow 5 (none) 0 0 [.ref (P.2.2.1 p0), .int p1, .int p2, .int p3] none M M' := by
  refine ct_of hW (by decide) (Nat.le_of_ble_eq_true rfl) (fun p e s m args below meth c C ls hl hw => ?_)
  have hx := C.1
  have hb := C.2.1
  replace hl : lv_has ls 5 [(0, .ref (P.2.2.1 p0)), (1, .int p1), (2, .int p2), (3, .int p3)] := hl
  have cut_3 : ∀ (n_3 : Nat) (v4_3 : Int32) (M_3 : Mem) (ls : Array Slot) (H : Heap) (locs : List Loc), lv_has ls 5 [(0, .ref (P.2.2.1 p0)), (1, .int p1), (2, .int p2), (3, .int p3), (4, .int v4_3)] → Hw shR P M_3 s H locs → lq2 (L_X11_copyRow_3 p0 p1 p2 p3 np0) n_3 v4_3 M_3 = some M' → W p l e { frames := 0, cells := 0, slots := 0, locals := 0 } s m args below meth c H locs 0 0 (MQ below (CQ shR P E none M') args s 0 0 (wA shR P)) (F0 m 3 ls []) := by
    intro n_3
    induction n_3 with
    | zero => intro v4_3 M_3 ls H locs hl hw h; cases h
    | succ n_3 ih_3 =>
      intro v4_3 M_3 ls H locs hl hw h
      replace h := lq2_succ h
      refine lv_iload hx hb dX11_copyRow_3 (lv_at hl 4 rfl) ?_
      refine lv_iload_n hx hb dX11_copyRow_5 rfl (lv_at hl 1 rfl) ?_
      refine lv_icmp_ge (tgt := 31) hx hb dX11_copyRow_6 (by decide) (fun c1 => ?_) (fun c1 => ?_)
      · replace h := (if_pos c1).symm.trans h
        exact wretV_W C hw h dX11_copyRow_31
      · replace h := (if_neg c1).symm.trans h
        refine lv_aload_n hx hb dX11_copyRow_9 rfl (lv_at hl 0 rfl) ?_
        refine lv_iload_n hx hb dX11_copyRow_10 rfl (lv_at hl 1 rfl) ?_
        refine lv_iload_n hx hb dX11_copyRow_11 rfl (lv_at hl 3 rfl) ?_
        refine lv_imul hx hb dX11_copyRow_12 ?_
        refine lv_iload hx hb dX11_copyRow_13 (lv_at hl 4 rfl) ?_
        refine lv_iadd hx hb dX11_copyRow_15 ?_
        refine lv_aload_n hx hb dX11_copyRow_16 rfl (lv_at hl 0 rfl) ?_
        refine lv_iload_n hx hb dX11_copyRow_17 rfl (lv_at hl 1 rfl) ?_
        refine lv_iload_n hx hb dX11_copyRow_18 rfl (lv_at hl 2 rfl) ?_
        refine lv_imul hx hb dX11_copyRow_19 ?_
        refine lv_iload hx hb dX11_copyRow_20 (lv_at hl 4 rfl) ?_
        refine lv_iadd hx hb dX11_copyRow_22 ?_
        obtain ⟨g2, h⟩ := grd h
        refine wald C hw hp0 g2 dX11_copyRow_23 ?_
        obtain ⟨g4, h⟩ := grd h
        refine wast C hw hp0 g4 dX11_copyRow_24 (fun M3 eM3 H locs hw => ?_)
        replace h := letv_at eM3 h
        refine lv_iinc (v := (v4_3 + 1)) (lv' := [(4, .int (v4_3 + 1)), (0, .ref (P.2.2.1 p0)), (1, .int p1), (2, .int p2), (3, .int p3)]) (k := 4) hx hb dX11_copyRow_25 hl rfl (congrArg (fun z => v4_3 + z) (by decide)) (by decide) rfl (fun ls hl => ?_)
        refine lv_goto (tgt := 3) hx hb dX11_copyRow_28 (by decide) ?_
        exact ih_3 (v4_3 + 1) M3 ls _ _ (lv_sub hl [1, 2, 3, 4, 0] rfl) hw h
  refine lv_iconst (v := 0) hx hb dX11_copyRow_0 (by decide) ?_
  refine lv_istore (lv' := [(4, .int 0), (0, .ref (P.2.2.1 p0)), (1, .int p1), (2, .int p2), (3, .int p3)]) hx hb dX11_copyRow_1 hl (by decide) rfl (fun ls hl => ?_)
  exact cut_3 FU 0 M ls _ _ (lv_sub hl [1, 2, 3, 4, 0] rfl) hw h
set_option maxRecDepth 100000 in
set_option maxHeartbeats 4000000 in
theorem c_X11_copyLehr {l : Launch} {P : Wp} {E : State → Heap → Prop} (hW : Wok shR P E) {p1 : Int32} {p2 : Int32} {M : Mem} {M' : Mem} (h : f_X11_copyLehr p1 p2 M = some M') : CT l shR P E yX11_copyLehr bX11_copyLehr 3 (none) 1 24 [.ref (P.2.2.1 0), .int p1, .int p2] none M M' := by
  refine ct_of hW (by decide) (Nat.le_of_ble_eq_true rfl) (fun p e s m args below meth c C ls hl hw => ?_)
  have hx := C.1
  have hb := C.2.1
  replace hl : lv_has ls 3 [(0, .ref (P.2.2.1 0)), (1, .int p1), (2, .int p2)] := hl
  refine lv_aload_n hx hb dX11_copyLehr_0 rfl (lv_at hl 0 rfl) ?_
  refine wgetR (t := 6) C hw flX11_31 (rfl : _ = some (0, 11)) rfl dX11_copyLehr_1 ?_
  refine lv_iconst (v := 1) hx hb dX11_copyLehr_4 (by decide) ?_
  refine lv_iload_n hx hb dX11_copyLehr_5 rfl (lv_at hl 1 rfl) ?_
  refine lv_iload_n hx hb dX11_copyLehr_6 rfl (lv_at hl 2 rfl) ?_
  obtain ⟨M3, e2, h⟩ := bnd_some h
  refine wcallS0 (As := [.ref (P.2.2.1 6), .int 1, .int p1, .int p2]) (rest := []) C hw (c_X11_copyRow hW (rfl : _ = some (1, 5)) e2) slX11_223 ⟨Nat.le_of_ble_eq_true rfl, Nat.le_of_ble_eq_true rfl⟩ rfl rfl hl.1 (Nat.le_of_ble_eq_true rfl) dX11_copyLehr_7 ⟨Nat.zero_le _, Nat.zero_le _⟩ (fun H locs hw => ?_)
  refine lv_aload_n hx hb dX11_copyLehr_10 rfl (lv_at hl 0 rfl) ?_
  refine wgetR (t := 7) C hw flX11_34 (rfl : _ = some (0, 11)) rfl dX11_copyLehr_11 ?_
  refine lv_bipush (v := 8) hx hb dX11_copyLehr_14 (by decide) ?_
  refine lv_iload_n hx hb dX11_copyLehr_16 rfl (lv_at hl 1 rfl) ?_
  refine lv_iload_n hx hb dX11_copyLehr_17 rfl (lv_at hl 2 rfl) ?_
  obtain ⟨M6, e5, h⟩ := bnd_some h
  refine wcallS0 (As := [.ref (P.2.2.1 7), .int 8, .int p1, .int p2]) (rest := []) C hw (c_X11_copyRow hW (rfl : _ = some (1, 40)) e5) slX11_223 ⟨Nat.le_of_ble_eq_true rfl, Nat.le_of_ble_eq_true rfl⟩ rfl rfl hl.1 (Nat.le_of_ble_eq_true rfl) dX11_copyLehr_18 ⟨Nat.zero_le _, Nat.zero_le _⟩ (fun H locs hw => ?_)
  refine lv_aload_n hx hb dX11_copyLehr_21 rfl (lv_at hl 0 rfl) ?_
  refine wgetR (t := 8) C hw flX11_37 (rfl : _ = some (0, 11)) rfl dX11_copyLehr_22 ?_
  refine lv_bipush (v := 7) hx hb dX11_copyLehr_25 (by decide) ?_
  refine lv_iload_n hx hb dX11_copyLehr_27 rfl (lv_at hl 1 rfl) ?_
  refine lv_iload_n hx hb dX11_copyLehr_28 rfl (lv_at hl 2 rfl) ?_
  obtain ⟨M9, e8, h⟩ := bnd_some h
  refine wcallS0 (As := [.ref (P.2.2.1 8), .int 7, .int p1, .int p2]) (rest := []) C hw (c_X11_copyRow hW (rfl : _ = some (1, 35)) e8) slX11_223 ⟨Nat.le_of_ble_eq_true rfl, Nat.le_of_ble_eq_true rfl⟩ rfl rfl hl.1 (Nat.le_of_ble_eq_true rfl) dX11_copyLehr_29 ⟨Nat.zero_le _, Nat.zero_le _⟩ (fun H locs hw => ?_)
  refine lv_aload_n hx hb dX11_copyLehr_32 rfl (lv_at hl 0 rfl) ?_
  refine wgetR (t := 9) C hw flX11_40 (rfl : _ = some (0, 11)) rfl dX11_copyLehr_33 ?_
  refine lv_bipush (v := 24) hx hb dX11_copyLehr_36 (by decide) ?_
  refine lv_iload_n hx hb dX11_copyLehr_38 rfl (lv_at hl 1 rfl) ?_
  refine lv_iload_n hx hb dX11_copyLehr_39 rfl (lv_at hl 2 rfl) ?_
  obtain ⟨M12, e11, h⟩ := bnd_some h
  refine wcallS0 (As := [.ref (P.2.2.1 9), .int 24, .int p1, .int p2]) (rest := []) C hw (c_X11_copyRow hW (rfl : _ = some (1, 120)) e11) slX11_223 ⟨Nat.le_of_ble_eq_true rfl, Nat.le_of_ble_eq_true rfl⟩ rfl rfl hl.1 (Nat.le_of_ble_eq_true rfl) dX11_copyLehr_40 ⟨Nat.zero_le _, Nat.zero_le _⟩ (fun H locs hw => ?_)
  refine lv_aload_n hx hb dX11_copyLehr_43 rfl (lv_at hl 0 rfl) ?_
  refine wgetR (t := 10) C hw flX11_43 (rfl : _ = some (0, 11)) rfl dX11_copyLehr_44 ?_
  refine lv_bipush (v := 120) hx hb dX11_copyLehr_47 (by decide) ?_
  refine lv_iload_n hx hb dX11_copyLehr_49 rfl (lv_at hl 1 rfl) ?_
  refine lv_iload_n hx hb dX11_copyLehr_50 rfl (lv_at hl 2 rfl) ?_
  obtain ⟨M15, e14, h⟩ := bnd_some h
  refine wcallS0 (As := [.ref (P.2.2.1 10), .int 120, .int p1, .int p2]) (rest := []) C hw (c_X11_copyRow hW (rfl : _ = some (1, 600)) e14) slX11_223 ⟨Nat.le_of_ble_eq_true rfl, Nat.le_of_ble_eq_true rfl⟩ rfl rfl hl.1 (Nat.le_of_ble_eq_true rfl) dX11_copyLehr_51 ⟨Nat.zero_le _, Nat.zero_le _⟩ (fun H locs hw => ?_)
  exact wretV_W C hw h dX11_copyLehr_54
set_option maxRecDepth 100000 in
set_option maxHeartbeats 4000000 in
theorem c_X11_lehr {l : Launch} {P : Wp} {E : State → Heap → Prop} (hW : Wok shR P E) {M : Mem} {r : Int32} {M' : Mem} (h : f_X11_lehr M = some (r, M')) : CT l shR P E yX11_lehr bX11_lehr 1 ((some .int)) 7 153 [.ref (P.2.2.1 0)] (some (.int r)) M M' := by
  refine ct_of hW (by decide) (Nat.le_of_ble_eq_true rfl) (fun p e s m args below meth c C ls hl hw => ?_)
  have hx := C.1
  have hb := C.2.1
  replace hl : lv_has ls 1 [(0, .ref (P.2.2.1 0))] := hl
  have cut_148 : ∀ (M_148 : Mem) (ls : Array Slot) (H : Heap) (locs : List Loc), lv_has ls 1 [(0, .ref (P.2.2.1 0))] → Hw shR P M_148 s H locs → J_X11_lehr_148 M_148 = some (r, M') → W p l e { frames := 7, cells := 0, slots := 0, locals := 153 } s m args below meth c H locs 0 0 (MQ below (CQ shR P E (some (.int r)) M') args s 0 0 (wA shR P)) (F0 m 148 ls []) := by
    intro M_148 ls H locs hl hw h
    refine lv_aload_n hx hb dX11_lehr_148 rfl (lv_at hl 0 rfl) ?_
    obtain ⟨M11, e10, h⟩ := bnd_some h
    refine wcallV0 (As := []) (rest := []) C hw (c_X11_isOver hW  e10) vlX11_217 ⟨Nat.le_of_ble_eq_true rfl, Nat.le_of_ble_eq_true rfl⟩ (rfl : _ = some (0, 11)) rfl rfl rfl hl.1 (Nat.le_of_ble_eq_true rfl) dX11_lehr_149 ⟨Nat.zero_le _, Nat.zero_le _⟩ (fun H locs hw => ?_)
    refine lv_aload_n hx hb dX11_lehr_152 rfl (lv_at hl 0 rfl) ?_
    refine wgetI C hw flX11_129 (rfl : _ = some (0, 11)) dX11_lehr_153 ?_
    refine lv_if_eq (tgt := 162) hx hb dX11_lehr_156 (by decide) (fun c12 => ?_) (fun c12 => ?_)
    · replace h := (if_pos c12).symm.trans h
      refine lv_aload_n hx hb dX11_lehr_162 rfl (lv_at hl 0 rfl) ?_
      refine lv_iconst (v := 4) hx hb dX11_lehr_163 (by decide) ?_
      refine lv_iconst (v := 0) hx hb dX11_lehr_164 (by decide) ?_
      obtain ⟨M15, e14, h⟩ := bnd_some h
      refine wcallV0 (As := [.int 4, .int 0]) (rest := []) C hw (c_X11_copyLehr hW  e14) vlX11_220 ⟨Nat.le_of_ble_eq_true rfl, Nat.le_of_ble_eq_true rfl⟩ (rfl : _ = some (0, 11)) rfl rfl rfl hl.1 (Nat.le_of_ble_eq_true rfl) dX11_lehr_165 ⟨Nat.zero_le _, Nat.zero_le _⟩ (fun H locs hw => ?_)
      refine lv_aload_n hx hb dX11_lehr_168 rfl (lv_at hl 0 rfl) ?_
      refine wgetR (t := 6) C hw flX11_31 (rfl : _ = some (0, 11)) rfl dX11_lehr_169 ?_
      refine lv_iconst (v := 0) hx hb dX11_lehr_172 (by decide) ?_
      obtain ⟨g16, h⟩ := grd h
      refine wald C hw (rfl : _ = some (1, 5)) g16 dX11_lehr_173 ?_
      exact wretI_W C hw h dX11_lehr_174
    · replace h := (if_neg c12).symm.trans h
      refine lv_bipush (v := (-4)) hx hb dX11_lehr_159 (by decide) ?_
      exact wretI_W C hw h dX11_lehr_161
  have cut_13 : ∀ (n_13 : Nat) (M_13 : Mem) (ls : Array Slot) (H : Heap) (locs : List Loc), lv_has ls 1 [(0, .ref (P.2.2.1 0))] → Hw shR P M_13 s H locs → lq1 (L_X11_lehr_13) n_13 M_13 = some (r, M') → W p l e { frames := 7, cells := 0, slots := 0, locals := 153 } s m args below meth c H locs 0 0 (MQ below (CQ shR P E (some (.int r)) M') args s 0 0 (wA shR P)) (F0 m 13 ls []) := by
    intro n_13
    induction n_13 with
    | zero => intro M_13 ls H locs hl hw h; cases h
    | succ n_13 ih_13 =>
      intro M_13 ls H locs hl hw h
      replace h := lq1_succ h
      have cut_135 : ∀ (M_135 : Mem) (ls : Array Slot) (H : Heap) (locs : List Loc), lv_has ls 1 [(0, .ref (P.2.2.1 0))] → Hw shR P M_135 s H locs → J_X11_lehr_135 (lq1 (L_X11_lehr_13) n_13) M_135 = some (r, M') → W p l e { frames := 7, cells := 0, slots := 0, locals := 153 } s m args below meth c H locs 0 0 (MQ below (CQ shR P E (some (.int r)) M') args s 0 0 (wA shR P)) (F0 m 135 ls []) := by
        intro M_135 ls H locs hl hw h
        refine lv_aload_n hx hb dX11_lehr_135 rfl (lv_at hl 0 rfl) ?_
        refine wgetR (t := 6) C hw flX11_31 (rfl : _ = some (0, 11)) rfl dX11_lehr_136 ?_
        refine lv_iconst (v := 4) hx hb dX11_lehr_139 (by decide) ?_
        refine lv_dup2_11 hx hb dX11_lehr_140 rfl rfl ?_
        obtain ⟨g24, h⟩ := grd h
        refine wald C hw (rfl : _ = some (1, 5)) g24 dX11_lehr_141 ?_
        refine lv_iconst (v := 1) hx hb dX11_lehr_142 (by decide) ?_
        refine lv_iadd hx hb dX11_lehr_143 ?_
        obtain ⟨g26, h⟩ := grd h
        refine wast C hw (rfl : _ = some (1, 5)) g26 dX11_lehr_144 (fun M25 eM25 H locs hw => ?_)
        replace h := letv_at eM25 h
        refine lv_goto (tgt := 13) hx hb dX11_lehr_145 (by decide) ?_
        exact ih_13 M25 ls _ _ (lv_sub hl [0] rfl) hw h
      refine lv_aload_n hx hb dX11_lehr_13 rfl (lv_at hl 0 rfl) ?_
      refine wcallV1 (As := []) (rest := []) C hw (c_X11_isGood hW  rfl) vlX11_195 ⟨Nat.le_of_ble_eq_true rfl, Nat.le_of_ble_eq_true rfl⟩ (rfl : _ = some (0, 11)) rfl rfl rfl hl.1 (Nat.le_of_ble_eq_true rfl) dX11_lehr_14 ⟨Nat.zero_le _, Nat.zero_le _⟩ (fun H locs hw => ?_)
      refine lv_if_eq (tgt := 148) hx hb dX11_lehr_17 (by decide) (fun c8 => ?_) (fun c8 => ?_)
      · replace h := (if_pos c8).symm.trans h
        exact cut_148 M_13 ls _ _ (lv_sub hl [0] rfl) hw h
      · replace h := (if_neg c8).symm.trans h
        refine lv_aload_n hx hb dX11_lehr_20 rfl (lv_at hl 0 rfl) ?_
        refine wgetI C hw flX11_118 (rfl : _ = some (0, 11)) dX11_lehr_21 ?_
        refine lv_if_eq (tgt := 148) hx hb dX11_lehr_24 (by decide) (fun c17 => ?_) (fun c17 => ?_)
        · replace h := (if_pos c17).symm.trans h
          exact cut_148 M_13 ls _ _ (lv_sub hl [0] rfl) hw h
        · replace h := (if_neg c17).symm.trans h
          refine lv_aload_n hx hb dX11_lehr_27 rfl (lv_at hl 0 rfl) ?_
          refine wgetR (t := 6) C hw flX11_31 (rfl : _ = some (0, 11)) rfl dX11_lehr_28 ?_
          refine lv_iconst (v := 4) hx hb dX11_lehr_31 (by decide) ?_
          obtain ⟨g18, h⟩ := grd h
          refine wald C hw (rfl : _ = some (1, 5)) g18 dX11_lehr_32 ?_
          refine lv_if_ne (tgt := 120) hx hb dX11_lehr_33 (by decide) (fun c19 => ?_) (fun c19 => ?_)
          · replace h := (if_neg c19).symm.trans h
            refine lv_aload_n hx hb dX11_lehr_120 rfl (lv_at hl 0 rfl) ?_
            obtain ⟨M22, e21, h⟩ := bnd_some h
            refine wcallV0 (As := []) (rest := []) C hw (c_X11_lineHere hW  e21) vlX11_211 ⟨Nat.le_of_ble_eq_true rfl, Nat.le_of_ble_eq_true rfl⟩ (rfl : _ = some (0, 11)) rfl rfl rfl hl.1 (Nat.le_of_ble_eq_true rfl) dX11_lehr_121 ⟨Nat.zero_le _, Nat.zero_le _⟩ (fun H locs hw => ?_)
            refine lv_aload_n hx hb dX11_lehr_124 rfl (lv_at hl 0 rfl) ?_
            refine wcallV1 (As := []) (rest := []) C hw (c_X11_isGood hW  rfl) vlX11_195 ⟨Nat.le_of_ble_eq_true rfl, Nat.le_of_ble_eq_true rfl⟩ (rfl : _ = some (0, 11)) rfl rfl rfl hl.1 (Nat.le_of_ble_eq_true rfl) dX11_lehr_125 ⟨Nat.zero_le _, Nat.zero_le _⟩ (fun H locs hw => ?_)
            refine lv_if_eq (tgt := 135) hx hb dX11_lehr_128 (by decide) (fun c23 => ?_) (fun c23 => ?_)
            · replace h := (if_pos c23).symm.trans h
              exact cut_135 M22 ls _ _ (lv_sub hl [0] rfl) hw h
            · replace h := (if_neg c23).symm.trans h
              refine lv_aload_n hx hb dX11_lehr_131 rfl (lv_at hl 0 rfl) ?_
              obtain ⟨M29, e28, h⟩ := bnd_some h
              refine wcallV0 (As := []) (rest := []) C hw (c_X11_ends hW  e28) vlX11_214 ⟨Nat.le_of_ble_eq_true rfl, Nat.le_of_ble_eq_true rfl⟩ (rfl : _ = some (0, 11)) rfl rfl rfl hl.1 (Nat.le_of_ble_eq_true rfl) dX11_lehr_132 ⟨Nat.zero_le _, Nat.zero_le _⟩ (fun H locs hw => ?_)
              exact cut_135 M29 ls _ _ (lv_sub hl [0] rfl) hw h
          · replace h := (if_pos c19).symm.trans h
            refine lv_aload_n hx hb dX11_lehr_36 rfl (lv_at hl 0 rfl) ?_
            refine lv_ldc2 hx hb C.2.2.2.1 (C.2.2.2.2.1 _ (List.mem_cons_of_mem _ (gm kcX11_199 rfl))) dX11_lehr_37 ?_
            obtain ⟨M32, e31, h⟩ := bnd_some h
            refine wcallV0 (As := [.long 240075]) (rest := []) C hw (c_X11_asks hW  e31) vlX11_148 ⟨Nat.le_of_ble_eq_true rfl, Nat.le_of_ble_eq_true rfl⟩ (rfl : _ = some (0, 11)) rfl rfl rfl hl.1 (Nat.le_of_ble_eq_true rfl) dX11_lehr_40 ⟨Nat.zero_le _, Nat.zero_le _⟩ (fun H locs hw => ?_)
            refine lv_aload_n hx hb dX11_lehr_43 rfl (lv_at hl 0 rfl) ?_
            refine lv_iconst (v := 0) hx hb dX11_lehr_44 (by decide) ?_
            refine lv_aload_n hx hb dX11_lehr_45 rfl (lv_at hl 0 rfl) ?_
            refine lv_ldc2 hx hb C.2.2.2.1 (C.2.2.2.2.1 _ (List.mem_cons_of_mem _ (gm kcX11_201 rfl))) dX11_lehr_46 ?_
            refine lv_iconst (v := 1) hx hb dX11_lehr_49 (by decide) ?_
            refine lv_bipush (v := 14) hx hb dX11_lehr_50 (by decide) ?_
            obtain ⟨r33, M35, e34, h⟩ := bnd2_some h
            refine wcallV1 (As := [.long 10495135, .int 1, .int 14]) (rest := [.int 0, .ref (P.2.2.1 0)]) C hw (c_X11_number_ hW  e34) vlX11_165 ⟨Nat.le_of_ble_eq_true rfl, Nat.le_of_ble_eq_true rfl⟩ (rfl : _ = some (0, 11)) rfl rfl rfl hl.1 (Nat.le_of_ble_eq_true rfl) dX11_lehr_52 ⟨Nat.zero_le _, Nat.zero_le _⟩ (fun H locs hw => ?_)
            obtain ⟨M38, e37, h⟩ := bnd_some h
            refine wcallV0 (As := [.int 0, .int r33]) (rest := []) C hw (c_X11_tells hW  e37) vlX11_174 ⟨Nat.le_of_ble_eq_true rfl, Nat.le_of_ble_eq_true rfl⟩ (rfl : _ = some (0, 11)) rfl rfl rfl hl.1 (Nat.le_of_ble_eq_true rfl) dX11_lehr_55 ⟨Nat.zero_le _, Nat.zero_le _⟩ (fun H locs hw => ?_)
            refine lv_aload_n hx hb dX11_lehr_58 rfl (lv_at hl 0 rfl) ?_
            refine lv_iconst (v := 1) hx hb dX11_lehr_59 (by decide) ?_
            refine lv_aload_n hx hb dX11_lehr_60 rfl (lv_at hl 0 rfl) ?_
            refine lv_ldc2 hx hb C.2.2.2.1 (C.2.2.2.2.1 _ (List.mem_cons_of_mem _ (gm kcX11_203 rfl))) dX11_lehr_61 ?_
            refine lv_iconst (v := 0) hx hb dX11_lehr_64 (by decide) ?_
            refine lv_iconst (v := 3) hx hb dX11_lehr_65 (by decide) ?_
            obtain ⟨r39, M41, e40, h⟩ := bnd2_some h
            refine wcallV1 (As := [.long 8798, .int 0, .int 3]) (rest := [.int 1, .ref (P.2.2.1 0)]) C hw (c_X11_number_ hW  e40) vlX11_165 ⟨Nat.le_of_ble_eq_true rfl, Nat.le_of_ble_eq_true rfl⟩ (rfl : _ = some (0, 11)) rfl rfl rfl hl.1 (Nat.le_of_ble_eq_true rfl) dX11_lehr_66 ⟨Nat.zero_le _, Nat.zero_le _⟩ (fun H locs hw => ?_)
            obtain ⟨M44, e43, h⟩ := bnd_some h
            refine wcallV0 (As := [.int 1, .int r39]) (rest := []) C hw (c_X11_tells hW  e43) vlX11_174 ⟨Nat.le_of_ble_eq_true rfl, Nat.le_of_ble_eq_true rfl⟩ (rfl : _ = some (0, 11)) rfl rfl rfl hl.1 (Nat.le_of_ble_eq_true rfl) dX11_lehr_69 ⟨Nat.zero_le _, Nat.zero_le _⟩ (fun H locs hw => ?_)
            refine lv_aload_n hx hb dX11_lehr_72 rfl (lv_at hl 0 rfl) ?_
            refine lv_iconst (v := 2) hx hb dX11_lehr_73 (by decide) ?_
            refine lv_aload_n hx hb dX11_lehr_74 rfl (lv_at hl 0 rfl) ?_
            refine lv_ldc2 hx hb C.2.2.2.1 (C.2.2.2.2.1 _ (List.mem_cons_of_mem _ (gm kcX11_205 rfl))) dX11_lehr_75 ?_
            refine lv_iconst (v := 0) hx hb dX11_lehr_78 (by decide) ?_
            refine lv_bipush (v := 10) hx hb dX11_lehr_79 (by decide) ?_
            obtain ⟨r45, M47, e46, h⟩ := bnd2_some h
            refine wcallV1 (As := [.long 298288, .int 0, .int 10]) (rest := [.int 2, .ref (P.2.2.1 0)]) C hw (c_X11_number_ hW  e46) vlX11_165 ⟨Nat.le_of_ble_eq_true rfl, Nat.le_of_ble_eq_true rfl⟩ (rfl : _ = some (0, 11)) rfl rfl rfl hl.1 (Nat.le_of_ble_eq_true rfl) dX11_lehr_81 ⟨Nat.zero_le _, Nat.zero_le _⟩ (fun H locs hw => ?_)
            obtain ⟨M50, e49, h⟩ := bnd_some h
            refine wcallV0 (As := [.int 2, .int r45]) (rest := []) C hw (c_X11_tells hW  e49) vlX11_174 ⟨Nat.le_of_ble_eq_true rfl, Nat.le_of_ble_eq_true rfl⟩ (rfl : _ = some (0, 11)) rfl rfl rfl hl.1 (Nat.le_of_ble_eq_true rfl) dX11_lehr_84 ⟨Nat.zero_le _, Nat.zero_le _⟩ (fun H locs hw => ?_)
            refine lv_aload_n hx hb dX11_lehr_87 rfl (lv_at hl 0 rfl) ?_
            refine lv_iconst (v := 3) hx hb dX11_lehr_88 (by decide) ?_
            refine lv_aload_n hx hb dX11_lehr_89 rfl (lv_at hl 0 rfl) ?_
            refine lv_ldc2 hx hb C.2.2.2.1 (C.2.2.2.2.1 _ (List.mem_cons_of_mem _ (gm kcX11_207 rfl))) dX11_lehr_90 ?_
            refine lv_iconst (v := 1) hx hb dX11_lehr_93 (by decide) ?_
            refine lv_iconst (v := 4) hx hb dX11_lehr_94 (by decide) ?_
            obtain ⟨r51, M53, e52, h⟩ := bnd2_some h
            refine wcallV1 (As := [.long 315743, .int 1, .int 4]) (rest := [.int 3, .ref (P.2.2.1 0)]) C hw (c_X11_number_ hW  e52) vlX11_165 ⟨Nat.le_of_ble_eq_true rfl, Nat.le_of_ble_eq_true rfl⟩ (rfl : _ = some (0, 11)) rfl rfl rfl hl.1 (Nat.le_of_ble_eq_true rfl) dX11_lehr_95 ⟨Nat.zero_le _, Nat.zero_le _⟩ (fun H locs hw => ?_)
            obtain ⟨M56, e55, h⟩ := bnd_some h
            refine wcallV0 (As := [.int 3, .int r51]) (rest := []) C hw (c_X11_tells hW  e55) vlX11_174 ⟨Nat.le_of_ble_eq_true rfl, Nat.le_of_ble_eq_true rfl⟩ (rfl : _ = some (0, 11)) rfl rfl rfl hl.1 (Nat.le_of_ble_eq_true rfl) dX11_lehr_98 ⟨Nat.zero_le _, Nat.zero_le _⟩ (fun H locs hw => ?_)
            refine lv_aload_n hx hb dX11_lehr_101 rfl (lv_at hl 0 rfl) ?_
            refine lv_iconst (v := 4) hx hb dX11_lehr_102 (by decide) ?_
            refine lv_aload_n hx hb dX11_lehr_103 rfl (lv_at hl 0 rfl) ?_
            refine lv_ldc2 hx hb C.2.2.2.1 (C.2.2.2.2.1 _ (List.mem_cons_of_mem _ (gm kcX11_209 rfl))) dX11_lehr_104 ?_
            refine lv_iconst (v := 0) hx hb dX11_lehr_107 (by decide) ?_
            refine lv_sipush (v := 600) hx hb dX11_lehr_108 (by decide) ?_
            obtain ⟨r57, M59, e58, h⟩ := bnd2_some h
            refine wcallV1 (As := [.long 14006, .int 0, .int 600]) (rest := [.int 4, .ref (P.2.2.1 0)]) C hw (c_X11_number_ hW  e58) vlX11_165 ⟨Nat.le_of_ble_eq_true rfl, Nat.le_of_ble_eq_true rfl⟩ (rfl : _ = some (0, 11)) rfl rfl rfl hl.1 (Nat.le_of_ble_eq_true rfl) dX11_lehr_111 ⟨Nat.zero_le _, Nat.zero_le _⟩ (fun H locs hw => ?_)
            obtain ⟨M62, e61, h⟩ := bnd_some h
            refine wcallV0 (As := [.int 4, .int r57]) (rest := []) C hw (c_X11_tells hW  e61) vlX11_174 ⟨Nat.le_of_ble_eq_true rfl, Nat.le_of_ble_eq_true rfl⟩ (rfl : _ = some (0, 11)) rfl rfl rfl hl.1 (Nat.le_of_ble_eq_true rfl) dX11_lehr_114 ⟨Nat.zero_le _, Nat.zero_le _⟩ (fun H locs hw => ?_)
            refine lv_goto (tgt := 124) hx hb dX11_lehr_117 (by decide) ?_
            refine lv_aload_n hx hb dX11_lehr_124 rfl (lv_at hl 0 rfl) ?_
            refine wcallV1 (As := []) (rest := []) C hw (c_X11_isGood hW  rfl) vlX11_195 ⟨Nat.le_of_ble_eq_true rfl, Nat.le_of_ble_eq_true rfl⟩ (rfl : _ = some (0, 11)) rfl rfl rfl hl.1 (Nat.le_of_ble_eq_true rfl) dX11_lehr_125 ⟨Nat.zero_le _, Nat.zero_le _⟩ (fun H locs hw => ?_)
            refine lv_if_eq (tgt := 135) hx hb dX11_lehr_128 (by decide) (fun c63 => ?_) (fun c63 => ?_)
            · replace h := (if_pos c63).symm.trans h
              exact cut_135 M62 ls _ _ (lv_sub hl [0] rfl) hw h
            · replace h := (if_neg c63).symm.trans h
              refine lv_aload_n hx hb dX11_lehr_131 rfl (lv_at hl 0 rfl) ?_
              obtain ⟨M66, e65, h⟩ := bnd_some h
              refine wcallV0 (As := []) (rest := []) C hw (c_X11_ends hW  e65) vlX11_214 ⟨Nat.le_of_ble_eq_true rfl, Nat.le_of_ble_eq_true rfl⟩ (rfl : _ = some (0, 11)) rfl rfl rfl hl.1 (Nat.le_of_ble_eq_true rfl) dX11_lehr_132 ⟨Nat.zero_le _, Nat.zero_le _⟩ (fun H locs hw => ?_)
              exact cut_135 M66 ls _ _ (lv_sub hl [0] rfl) hw h
  refine lv_aload_n hx hb dX11_lehr_0 rfl (lv_at hl 0 rfl) ?_
  refine lv_iconst (v := 0) hx hb dX11_lehr_1 (by decide) ?_
  refine wputI C hw fpX11_77 (rfl : _ = some (0, 11)) dX11_lehr_2 (fun M1 eM1 H locs hw => ?_)
  replace h := letv_at eM1 h
  refine lv_aload_n hx hb dX11_lehr_5 rfl (lv_at hl 0 rfl) ?_
  obtain ⟨M4, e3, h⟩ := bnd_some h
  refine wcallV0 (As := []) (rest := []) C hw (c_X11_clears hW  e3) vlX11_189 ⟨Nat.le_of_ble_eq_true rfl, Nat.le_of_ble_eq_true rfl⟩ (rfl : _ = some (0, 11)) rfl rfl rfl hl.1 (Nat.le_of_ble_eq_true rfl) dX11_lehr_6 ⟨Nat.zero_le _, Nat.zero_le _⟩ (fun H locs hw => ?_)
  refine lv_aload_n hx hb dX11_lehr_9 rfl (lv_at hl 0 rfl) ?_
  obtain ⟨M7, e6, h⟩ := bnd_some h
  refine wcallV0 (As := []) (rest := []) C hw (c_X11_begins hW  e6) vlX11_192 ⟨Nat.le_of_ble_eq_true rfl, Nat.le_of_ble_eq_true rfl⟩ (rfl : _ = some (0, 11)) rfl rfl rfl hl.1 (Nat.le_of_ble_eq_true rfl) dX11_lehr_10 ⟨Nat.zero_le _, Nat.zero_le _⟩ (fun H locs hw => ?_)
  exact cut_13 FU M7 ls _ _ (lv_sub hl [0] rfl) hw h
set_option maxRecDepth 100000 in
set_option maxHeartbeats 4000000 in
theorem c_X11_isLehr {l : Launch} {P : Wp} {E : State → Heap → Prop} (hW : Wok shR P E) {M : Mem} {r : Int32} (h : f_X11_isLehr M = some r) : CT l shR P E yX11_isLehr bX11_isLehr 1 ((some .boolean)) 0 0 [.ref (P.2.2.1 0)] (some (.int r)) M M := by
  refine ct_of hW (by decide) (Nat.le_of_ble_eq_true rfl) (fun p e s m args below meth c C ls hl hw => ?_)
  have hx := C.1
  have hb := C.2.1
  replace hl : lv_has ls 1 [(0, .ref (P.2.2.1 0))] := hl
  refine lv_aload_n hx hb dX11_isLehr_0 rfl (lv_at hl 0 rfl) ?_
  refine wgetR (t := 6) C hw flX11_31 (rfl : _ = some (0, 11)) rfl dX11_isLehr_1 ?_
  refine lv_iconst (v := 0) hx hb dX11_isLehr_4 (by decide) ?_
  obtain ⟨g1, h⟩ := grd h
  refine wald C hw (rfl : _ = some (1, 5)) g1 dX11_isLehr_5 ?_
  refine lv_if_le (tgt := 13) hx hb dX11_isLehr_6 (by decide) (fun c2 => ?_) (fun c2 => ?_)
  · replace h := (if_pos c2).symm.trans h
    refine lv_iconst (v := 0) hx hb dX11_isLehr_13 (by decide) ?_
    exact wretZ_R C hw (Or.inl rfl) h dX11_isLehr_14
  · replace h := (if_neg c2).symm.trans h
    refine lv_iconst (v := 1) hx hb dX11_isLehr_9 (by decide) ?_
    refine lv_goto (tgt := 14) hx hb dX11_isLehr_10 (by decide) ?_
    exact wretZ_R C hw (Or.inr rfl) h dX11_isLehr_14
set_option maxRecDepth 100000 in
set_option maxHeartbeats 4000000 in
theorem c_X11_steps {l : Launch} {P : Wp} {E : State → Heap → Prop} (hW : Wok shR P E) {M : Mem} {r : Int32} (h : f_X11_steps M = some r) : CT l shR P E yX11_steps bX11_steps 1 ((some .int)) 0 0 [.ref (P.2.2.1 0)] (some (.int r)) M M := by
  refine ct_of hW (by decide) (Nat.le_of_ble_eq_true rfl) (fun p e s m args below meth c C ls hl hw => ?_)
  have hx := C.1
  have hb := C.2.1
  replace hl : lv_has ls 1 [(0, .ref (P.2.2.1 0))] := hl
  refine lv_aload_n hx hb dX11_steps_0 rfl (lv_at hl 0 rfl) ?_
  refine wgetR (t := 7) C hw flX11_34 (rfl : _ = some (0, 11)) rfl dX11_steps_1 ?_
  refine lv_iconst (v := 0) hx hb dX11_steps_4 (by decide) ?_
  obtain ⟨g1, h⟩ := grd h
  refine wald C hw (rfl : _ = some (1, 40)) g1 dX11_steps_5 ?_
  exact wretI_R C hw h dX11_steps_6
set_option maxRecDepth 100000 in
set_option maxHeartbeats 4000000 in
theorem c_X11_pieces {l : Launch} {P : Wp} {E : State → Heap → Prop} (hW : Wok shR P E) {M : Mem} {r : Int32} (h : f_X11_pieces M = some r) : CT l shR P E yX11_pieces bX11_pieces 1 ((some .int)) 0 0 [.ref (P.2.2.1 0)] (some (.int r)) M M := by
  refine ct_of hW (by decide) (Nat.le_of_ble_eq_true rfl) (fun p e s m args below meth c C ls hl hw => ?_)
  have hx := C.1
  have hb := C.2.1
  replace hl : lv_has ls 1 [(0, .ref (P.2.2.1 0))] := hl
  refine lv_aload_n hx hb dX11_pieces_0 rfl (lv_at hl 0 rfl) ?_
  refine wgetR (t := 7) C hw flX11_34 (rfl : _ = some (0, 11)) rfl dX11_pieces_1 ?_
  refine lv_bipush (v := 6) hx hb dX11_pieces_4 (by decide) ?_
  obtain ⟨g1, h⟩ := grd h
  refine wald C hw (rfl : _ = some (1, 40)) g1 dX11_pieces_6 ?_
  exact wretI_R C hw h dX11_pieces_7
set_option maxRecDepth 100000 in
set_option maxHeartbeats 4000000 in
theorem c_X11_isZone {l : Launch} {P : Wp} {E : State → Heap → Prop} (hW : Wok shR P E) {p1 : Int32} {M : Mem} {r : Int32} (h : f_X11_isZone p1 M = some r) : CT l shR P E yX11_isZone bX11_isZone 2 ((some .boolean)) 1 25 [.ref (P.2.2.1 0), .int p1] (some (.int r)) M M := by
  refine ct_of hW (by decide) (Nat.le_of_ble_eq_true rfl) (fun p e s m args below meth c C ls hl hw => ?_)
  have hx := C.1
  have hb := C.2.1
  replace hl : lv_has ls 2 [(0, .ref (P.2.2.1 0)), (1, .int p1)] := hl
  refine lv_iload_n hx hb dX11_isZone_0 rfl (lv_at hl 1 rfl) ?_
  refine lv_i2l hx hb dX11_isZone_1 rfl ?_
  refine lv_lconst (v := 0) hx hb dX11_isZone_2 (by decide) ?_
  refine lv_aload_n hx hb dX11_isZone_3 rfl (lv_at hl 0 rfl) ?_
  refine wgetR (t := 7) C hw flX11_34 (rfl : _ = some (0, 11)) rfl dX11_isZone_4 ?_
  refine lv_iconst (v := 5) hx hb dX11_isZone_7 (by decide) ?_
  obtain ⟨g1, h⟩ := grd h
  refine wald C hw (rfl : _ = some (1, 40)) g1 dX11_isZone_8 ?_
  refine lv_i2l hx hb dX11_isZone_9 rfl ?_
  refine lv_lconst (v := 1) hx hb dX11_isZone_10 (by decide) ?_
  refine lv_lsub hx hb dX11_isZone_11 ?_
  refine wcallS1 (As := [.long ((p1 : Int32).toInt64), .long 0, .long ((((M.1 7 (ix 5)) : Int32).toInt64) - (1 : Int64))]) (rest := []) C hw (c_X11_in hW  rfl) slX11_82 ⟨Nat.le_of_ble_eq_true rfl, Nat.le_of_ble_eq_true rfl⟩ rfl rfl hl.1 (Nat.le_of_ble_eq_true rfl) dX11_isZone_12 ⟨Nat.zero_le _, Nat.zero_le _⟩ (fun H locs hw => ?_)
  exact wretZ_R C hw z_X11_in h dX11_isZone_15
set_option maxRecDepth 100000 in
set_option maxHeartbeats 4000000 in
theorem c_X11_isPiece {l : Launch} {P : Wp} {E : State → Heap → Prop} (hW : Wok shR P E) {p1 : Int64} {M : Mem} {r : Int32} (h : f_X11_isPiece p1 M = some r) : CT l shR P E yX11_isPiece bX11_isPiece 3 ((some .boolean)) 1 25 [.ref (P.2.2.1 0), .long p1] (some (.int r)) M M := by
  refine ct_of hW (by decide) (Nat.le_of_ble_eq_true rfl) (fun p e s m args below meth c C ls hl hw => ?_)
  have hx := C.1
  have hb := C.2.1
  replace hl : lv_has ls 3 [(0, .ref (P.2.2.1 0)), (1, .long p1)] := hl
  refine lv_lload_n hx hb dX11_isPiece_0 rfl (lv_at hl 1 rfl) ?_
  refine lv_lconst (v := 0) hx hb dX11_isPiece_1 (by decide) ?_
  refine lv_aload_n hx hb dX11_isPiece_2 rfl (lv_at hl 0 rfl) ?_
  obtain ⟨r1, e2, h⟩ := bnd_some h
  refine wcallV1 (As := []) (rest := [.long 0, .long p1]) C hw (c_X11_pieces hW  e2) vlX11_227 ⟨Nat.le_of_ble_eq_true rfl, Nat.le_of_ble_eq_true rfl⟩ (rfl : _ = some (0, 11)) rfl rfl rfl hl.1 (Nat.le_of_ble_eq_true rfl) dX11_isPiece_3 ⟨Nat.zero_le _, Nat.zero_le _⟩ (fun H locs hw => ?_)
  refine lv_i2l hx hb dX11_isPiece_6 rfl ?_
  refine lv_lconst (v := 1) hx hb dX11_isPiece_7 (by decide) ?_
  refine lv_lsub hx hb dX11_isPiece_8 ?_
  refine wcallS1 (As := [.long p1, .long 0, .long (((r1 : Int32).toInt64) - (1 : Int64))]) (rest := []) C hw (c_X11_in hW  rfl) slX11_82 ⟨Nat.le_of_ble_eq_true rfl, Nat.le_of_ble_eq_true rfl⟩ rfl rfl hl.1 (Nat.le_of_ble_eq_true rfl) dX11_isPiece_9 ⟨Nat.zero_le _, Nat.zero_le _⟩ (fun H locs hw => ?_)
  exact wretZ_R C hw z_X11_in h dX11_isPiece_12
set_option maxRecDepth 100000 in
set_option maxHeartbeats 4000000 in
theorem c_X11_isStep {l : Launch} {P : Wp} {E : State → Heap → Prop} (hW : Wok shR P E) {p1 : Int64} {M : Mem} {r : Int32} (h : f_X11_isStep p1 M = some r) : CT l shR P E yX11_isStep bX11_isStep 3 ((some .boolean)) 1 25 [.ref (P.2.2.1 0), .long p1] (some (.int r)) M M := by
  refine ct_of hW (by decide) (Nat.le_of_ble_eq_true rfl) (fun p e s m args below meth c C ls hl hw => ?_)
  have hx := C.1
  have hb := C.2.1
  replace hl : lv_has ls 3 [(0, .ref (P.2.2.1 0)), (1, .long p1)] := hl
  refine lv_aload_n hx hb dX11_isStep_0 rfl (lv_at hl 0 rfl) ?_
  obtain ⟨r1, e2, h⟩ := bnd_some h
  refine wcallV1 (As := []) (rest := []) C hw (c_X11_isLehr hW  e2) vlX11_231 ⟨Nat.le_of_ble_eq_true rfl, Nat.le_of_ble_eq_true rfl⟩ (rfl : _ = some (0, 11)) rfl rfl rfl hl.1 (Nat.le_of_ble_eq_true rfl) dX11_isStep_1 ⟨Nat.zero_le _, Nat.zero_le _⟩ (fun H locs hw => ?_)
  refine lv_if_eq (tgt := 24) hx hb dX11_isStep_4 (by decide) (fun c3 => ?_) (fun c3 => ?_)
  · replace h := (if_pos c3).symm.trans h
    refine lv_iconst (v := 0) hx hb dX11_isStep_24 (by decide) ?_
    exact wretZ_R C hw (Or.inl rfl) h dX11_isStep_25
  · replace h := (if_neg c3).symm.trans h
    refine lv_lload_n hx hb dX11_isStep_7 rfl (lv_at hl 1 rfl) ?_
    refine lv_lconst (v := 0) hx hb dX11_isStep_8 (by decide) ?_
    refine lv_aload_n hx hb dX11_isStep_9 rfl (lv_at hl 0 rfl) ?_
    obtain ⟨r4, e5, h⟩ := bnd_some h
    refine wcallV1 (As := []) (rest := [.long 0, .long p1]) C hw (c_X11_steps hW  e5) vlX11_234 ⟨Nat.le_of_ble_eq_true rfl, Nat.le_of_ble_eq_true rfl⟩ (rfl : _ = some (0, 11)) rfl rfl rfl hl.1 (Nat.le_of_ble_eq_true rfl) dX11_isStep_10 ⟨Nat.zero_le _, Nat.zero_le _⟩ (fun H locs hw => ?_)
    refine lv_i2l hx hb dX11_isStep_13 rfl ?_
    refine wcallS1 (As := [.long p1, .long 0, .long ((r4 : Int32).toInt64)]) (rest := []) C hw (c_X11_in hW  rfl) slX11_82 ⟨Nat.le_of_ble_eq_true rfl, Nat.le_of_ble_eq_true rfl⟩ rfl rfl hl.1 (Nat.le_of_ble_eq_true rfl) dX11_isStep_14 ⟨Nat.zero_le _, Nat.zero_le _⟩ (fun H locs hw => ?_)
    refine lv_if_eq (tgt := 24) hx hb dX11_isStep_17 (by decide) (fun c6 => ?_) (fun c6 => ?_)
    · replace h := (if_pos c6).symm.trans h
      refine lv_iconst (v := 0) hx hb dX11_isStep_24 (by decide) ?_
      exact wretZ_R C hw (Or.inl rfl) h dX11_isStep_25
    · replace h := (if_neg c6).symm.trans h
      refine lv_iconst (v := 1) hx hb dX11_isStep_20 (by decide) ?_
      refine lv_goto (tgt := 25) hx hb dX11_isStep_21 (by decide) ?_
      exact wretZ_R C hw (Or.inr rfl) h dX11_isStep_25
set_option maxRecDepth 100000 in
set_option maxHeartbeats 4000000 in
theorem c_X11_isAhead {l : Launch} {P : Wp} {E : State → Heap → Prop} (hW : Wok shR P E) {p1 : Int32} {M : Mem} {r : Int32} (h : f_X11_isAhead p1 M = some r) : CT l shR P E yX11_isAhead bX11_isAhead 2 ((some .boolean)) 1 25 [.ref (P.2.2.1 0), .int p1] (some (.int r)) M M := by
  refine ct_of hW (by decide) (Nat.le_of_ble_eq_true rfl) (fun p e s m args below meth c C ls hl hw => ?_)
  have hx := C.1
  have hb := C.2.1
  replace hl : lv_has ls 2 [(0, .ref (P.2.2.1 0)), (1, .int p1)] := hl
  refine lv_iload_n hx hb dX11_isAhead_0 rfl (lv_at hl 1 rfl) ?_
  refine lv_i2l hx hb dX11_isAhead_1 rfl ?_
  refine lv_lconst (v := 0) hx hb dX11_isAhead_2 (by decide) ?_
  refine lv_aload_n hx hb dX11_isAhead_3 rfl (lv_at hl 0 rfl) ?_
  obtain ⟨r1, e2, h⟩ := bnd_some h
  refine wcallV1 (As := []) (rest := [.long 0, .long ((p1 : Int32).toInt64)]) C hw (c_X11_steps hW  e2) vlX11_234 ⟨Nat.le_of_ble_eq_true rfl, Nat.le_of_ble_eq_true rfl⟩ (rfl : _ = some (0, 11)) rfl rfl rfl hl.1 (Nat.le_of_ble_eq_true rfl) dX11_isAhead_4 ⟨Nat.zero_le _, Nat.zero_le _⟩ (fun H locs hw => ?_)
  refine lv_i2l hx hb dX11_isAhead_7 rfl ?_
  refine lv_lconst (v := 1) hx hb dX11_isAhead_8 (by decide) ?_
  refine lv_lsub hx hb dX11_isAhead_9 ?_
  refine wcallS1 (As := [.long ((p1 : Int32).toInt64), .long 0, .long (((r1 : Int32).toInt64) - (1 : Int64))]) (rest := []) C hw (c_X11_in hW  rfl) slX11_82 ⟨Nat.le_of_ble_eq_true rfl, Nat.le_of_ble_eq_true rfl⟩ rfl rfl hl.1 (Nat.le_of_ble_eq_true rfl) dX11_isAhead_10 ⟨Nat.zero_le _, Nat.zero_le _⟩ (fun H locs hw => ?_)
  exact wretZ_R C hw z_X11_in h dX11_isAhead_13
set_option maxRecDepth 100000 in
set_option maxHeartbeats 4000000 in
theorem c_X11_isThen {l : Launch} {P : Wp} {E : State → Heap → Prop} (hW : Wok shR P E) {p1 : Int32} {p2 : Int32} {M : Mem} {r : Int32} (h : f_X11_isThen p1 p2 M = some r) : CT l shR P E yX11_isThen bX11_isThen 3 ((some .boolean)) 2 47 [.ref (P.2.2.1 0), .int p1, .int p2] (some (.int r)) M M := by
  refine ct_of hW (by decide) (Nat.le_of_ble_eq_true rfl) (fun p e s m args below meth c C ls hl hw => ?_)
  have hx := C.1
  have hb := C.2.1
  replace hl : lv_has ls 3 [(0, .ref (P.2.2.1 0)), (1, .int p1), (2, .int p2)] := hl
  refine lv_aload_n hx hb dX11_isThen_0 rfl (lv_at hl 0 rfl) ?_
  refine lv_iload_n hx hb dX11_isThen_1 rfl (lv_at hl 1 rfl) ?_
  refine lv_i2l hx hb dX11_isThen_2 rfl ?_
  obtain ⟨r1, e2, h⟩ := bnd_some h
  refine wcallV1 (As := [.long ((p1 : Int32).toInt64)]) (rest := []) C hw (c_X11_isPiece hW  e2) vlX11_237 ⟨Nat.le_of_ble_eq_true rfl, Nat.le_of_ble_eq_true rfl⟩ (rfl : _ = some (0, 11)) rfl rfl rfl hl.1 (Nat.le_of_ble_eq_true rfl) dX11_isThen_3 ⟨Nat.zero_le _, Nat.zero_le _⟩ (fun H locs hw => ?_)
  refine lv_if_eq (tgt := 22) hx hb dX11_isThen_6 (by decide) (fun c3 => ?_) (fun c3 => ?_)
  · replace h := (if_pos c3).symm.trans h
    refine lv_iconst (v := 0) hx hb dX11_isThen_22 (by decide) ?_
    exact wretZ_R C hw (Or.inl rfl) h dX11_isThen_23
  · replace h := (if_neg c3).symm.trans h
    refine lv_aload_n hx hb dX11_isThen_9 rfl (lv_at hl 0 rfl) ?_
    refine lv_iload_n hx hb dX11_isThen_10 rfl (lv_at hl 2 rfl) ?_
    refine lv_i2l hx hb dX11_isThen_11 rfl ?_
    obtain ⟨r4, e5, h⟩ := bnd_some h
    refine wcallV1 (As := [.long ((p2 : Int32).toInt64)]) (rest := []) C hw (c_X11_isStep hW  e5) vlX11_240 ⟨Nat.le_of_ble_eq_true rfl, Nat.le_of_ble_eq_true rfl⟩ (rfl : _ = some (0, 11)) rfl rfl rfl hl.1 (Nat.le_of_ble_eq_true rfl) dX11_isThen_12 ⟨Nat.zero_le _, Nat.zero_le _⟩ (fun H locs hw => ?_)
    refine lv_if_eq (tgt := 22) hx hb dX11_isThen_15 (by decide) (fun c6 => ?_) (fun c6 => ?_)
    · replace h := (if_pos c6).symm.trans h
      refine lv_iconst (v := 0) hx hb dX11_isThen_22 (by decide) ?_
      exact wretZ_R C hw (Or.inl rfl) h dX11_isThen_23
    · replace h := (if_neg c6).symm.trans h
      refine lv_iconst (v := 1) hx hb dX11_isThen_18 (by decide) ?_
      refine lv_goto (tgt := 23) hx hb dX11_isThen_19 (by decide) ?_
      exact wretZ_R C hw (Or.inr rfl) h dX11_isThen_23
