/-! the law, behind its two constructors -/
abbrev mL_law : MI := (yL_law, cL_law, 4, some .boolean)
theorem w_578 : Cond.methodLink "NeverHaltedLaw" 13 yX11_state ∈ ie_T := ie_in 578 (by decide +kernel)
theorem w_579 : Cond.instanceMethod yX11_state ∈ ie_T := ie_in 579 (by decide +kernel)
theorem w_580 : Cond.selects "NeverHalted" yX11_state yX11_state ∈ ie_T := ie_in 580 (by decide +kernel)
theorem w_586 : Cond.methodLink "NeverHaltedLaw" 18 yX11_walker ∈ ie_T := ie_in 586 (by decide +kernel)
theorem w_587 : Cond.instanceMethod yX11_walker ∈ ie_T := ie_in 587 (by decide +kernel)
theorem w_588 : Cond.selects "NeverHalted" yX11_walker yX11_walker ∈ ie_T := ie_in 588 (by decide +kernel)
theorem w_596 : Cond.methodLink "NeverHaltedLaw" 23 yX11_set ∈ ie_T := ie_in 596 (by decide +kernel)
theorem w_597 : Cond.instanceMethod yX11_set ∈ ie_T := ie_in 597 (by decide +kernel)
theorem w_598 : Cond.selects "NeverHalted" yX11_set yX11_set ∈ ie_T := ie_in 598 (by decide +kernel)
theorem w_608 : Cond.methodLink "NeverHaltedLaw" 28 yX11_road ∈ ie_T := ie_in 608 (by decide +kernel)
theorem w_609 : Cond.instanceMethod yX11_road ∈ ie_T := ie_in 609 (by decide +kernel)
theorem w_610 : Cond.selects "NeverHalted" yX11_road yX11_road ∈ ie_T := ie_in 610 (by decide +kernel)
theorem w_612 : Cond.methodLink "NeverHaltedLaw" 32 yX11_feed ∈ ie_T := ie_in 612 (by decide +kernel)
theorem w_613 : Cond.instanceMethod yX11_feed ∈ ie_T := ie_in 613 (by decide +kernel)
theorem w_614 : Cond.selects "NeverHalted" yX11_feed yX11_feed ∈ ie_T := ie_in 614 (by decide +kernel)
theorem w_620 : Cond.methodLink "NeverHaltedLaw" 37 yX11_end ∈ ie_T := ie_in 620 (by decide +kernel)
theorem w_621 : Cond.instanceMethod yX11_end ∈ ie_T := ie_in 621 (by decide +kernel)
theorem w_622 : Cond.selects "NeverHalted" yX11_end yX11_end ∈ ie_T := ie_in 622 (by decide +kernel)
theorem w_624 : Cond.methodLink "NeverHaltedLaw" 42 yX11_text ∈ ie_T := ie_in 624 (by decide +kernel)
theorem w_625 : Cond.instanceMethod yX11_text ∈ ie_T := ie_in 625 (by decide +kernel)
theorem w_626 : Cond.selects "NeverHalted" yX11_text yX11_text ∈ ie_T := ie_in 626 (by decide +kernel)
theorem w_818 : Cond.methodLink "NeverHaltedLaw" 46 yX11_fault ∈ ie_T := ie_in 818 (by decide +kernel)
theorem w_819 : Cond.instanceMethod yX11_fault ∈ ie_T := ie_in 819 (by decide +kernel)
theorem w_820 : Cond.selects "NeverHalted" yX11_fault yX11_fault ∈ ie_T := ie_in 820 (by decide +kernel)
theorem w_822 : Cond.methodLink "NeverHaltedLaw" 50 yX11_hours ∈ ie_T := ie_in 822 (by decide +kernel)
theorem w_823 : Cond.instanceMethod yX11_hours ∈ ie_T := ie_in 823 (by decide +kernel)
theorem w_824 : Cond.selects "NeverHalted" yX11_hours yX11_hours ∈ ie_T := ie_in 824 (by decide +kernel)
theorem w_937 : Cond.methodLink "NeverHaltedLaw" 54 yX11_move ∈ ie_T := ie_in 937 (by decide +kernel)
theorem w_938 : Cond.instanceMethod yX11_move ∈ ie_T := ie_in 938 (by decide +kernel)
theorem w_939 : Cond.selects "NeverHalted" yX11_move yX11_move ∈ ie_T := ie_in 939 (by decide +kernel)
theorem w_941 : Cond.methodLink "NeverHaltedLaw" 59 yX11_carry ∈ ie_T := ie_in 941 (by decide +kernel)
theorem w_942 : Cond.instanceMethod yX11_carry ∈ ie_T := ie_in 942 (by decide +kernel)
theorem w_943 : Cond.selects "NeverHalted" yX11_carry yX11_carry ∈ ie_T := ie_in 943 (by decide +kernel)
theorem w_945 : Cond.methodLink "NeverHaltedLaw" 125 yX11_undo ∈ ie_T := ie_in 945 (by decide +kernel)
theorem w_946 : Cond.instanceMethod yX11_undo ∈ ie_T := ie_in 946 (by decide +kernel)
theorem w_947 : Cond.selects "NeverHalted" yX11_undo yX11_undo ∈ ie_T := ie_in 947 (by decide +kernel)
theorem w_953 : Cond.methodLink "NeverHaltedLaw" 130 yX11_image ∈ ie_T := ie_in 953 (by decide +kernel)
theorem w_954 : Cond.instanceMethod yX11_image ∈ ie_T := ie_in 954 (by decide +kernel)
theorem w_955 : Cond.selects "NeverHalted" yX11_image yX11_image ∈ ie_T := ie_in 955 (by decide +kernel)
theorem w_971 : Cond.methodLink "NeverHaltedLaw" 63 yX11_of ∈ ie_T := ie_in 971 (by decide +kernel)
theorem w_972 : Cond.instanceMethod yX11_of ∈ ie_T := ie_in 972 (by decide +kernel)
theorem w_973 : Cond.selects "NeverHalted" yX11_of yX11_of ∈ ie_T := ie_in 973 (by decide +kernel)
theorem w_979 : Cond.methodLink "NeverHaltedLaw" 67 yX11_stone ∈ ie_T := ie_in 979 (by decide +kernel)
theorem w_980 : Cond.instanceMethod yX11_stone ∈ ie_T := ie_in 980 (by decide +kernel)
theorem w_981 : Cond.selects "NeverHalted" yX11_stone yX11_stone ∈ ie_T := ie_in 981 (by decide +kernel)
theorem w_983 : Cond.methodLink "NeverHaltedLaw" 71 yX11_roadOf ∈ ie_T := ie_in 983 (by decide +kernel)
theorem w_984 : Cond.instanceMethod yX11_roadOf ∈ ie_T := ie_in 984 (by decide +kernel)
theorem w_985 : Cond.selects "NeverHalted" yX11_roadOf yX11_roadOf ∈ ie_T := ie_in 985 (by decide +kernel)
theorem w_987 : Cond.methodLink "NeverHaltedLaw" 75 yX11_book ∈ ie_T := ie_in 987 (by decide +kernel)
theorem w_988 : Cond.instanceMethod yX11_book ∈ ie_T := ie_in 988 (by decide +kernel)
theorem w_989 : Cond.selects "NeverHalted" yX11_book yX11_book ∈ ie_T := ie_in 989 (by decide +kernel)
theorem w_991 : Cond.methodLink "NeverHaltedLaw" 135 yX11_look ∈ ie_T := ie_in 991 (by decide +kernel)
theorem w_992 : Cond.instanceMethod yX11_look ∈ ie_T := ie_in 992 (by decide +kernel)
theorem w_993 : Cond.selects "NeverHalted" yX11_look yX11_look ∈ ie_T := ie_in 993 (by decide +kernel)
theorem w_1003 : Cond.methodLink "NeverHaltedLaw" 79 yX11_goes ∈ ie_T := ie_in 1003 (by decide +kernel)
theorem w_1004 : Cond.instanceMethod yX11_goes ∈ ie_T := ie_in 1004 (by decide +kernel)
theorem w_1005 : Cond.selects "NeverHalted" yX11_goes yX11_goes ∈ ie_T := ie_in 1005 (by decide +kernel)
theorem w_1012 : Cond.methodLink "NeverHaltedLaw" 83 yX11_cover ∈ ie_T := ie_in 1012 (by decide +kernel)
theorem w_1013 : Cond.instanceMethod yX11_cover ∈ ie_T := ie_in 1013 (by decide +kernel)
theorem w_1014 : Cond.selects "NeverHalted" yX11_cover yX11_cover ∈ ie_T := ie_in 1014 (by decide +kernel)
theorem w_1037 : Cond.methodLink "NeverHaltedLaw" 87 yX11_watches ∈ ie_T := ie_in 1037 (by decide +kernel)
theorem w_1038 : Cond.instanceMethod yX11_watches ∈ ie_T := ie_in 1038 (by decide +kernel)
theorem w_1039 : Cond.selects "NeverHalted" yX11_watches yX11_watches ∈ ie_T := ie_in 1039 (by decide +kernel)
theorem w_1094 : Cond.methodLink "NeverHaltedLaw" 91 yX11_tour ∈ ie_T := ie_in 1094 (by decide +kernel)
theorem w_1095 : Cond.instanceMethod yX11_tour ∈ ie_T := ie_in 1095 (by decide +kernel)
theorem w_1096 : Cond.selects "NeverHalted" yX11_tour yX11_tour ∈ ie_T := ie_in 1096 (by decide +kernel)
theorem w_1119 : Cond.methodLink "NeverHaltedLaw" 95 yX11_meets ∈ ie_T := ie_in 1119 (by decide +kernel)
theorem w_1120 : Cond.instanceMethod yX11_meets ∈ ie_T := ie_in 1120 (by decide +kernel)
theorem w_1121 : Cond.selects "NeverHalted" yX11_meets yX11_meets ∈ ie_T := ie_in 1121 (by decide +kernel)
theorem w_1127 : Cond.methodLink "NeverHaltedLaw" 100 yX11_sees ∈ ie_T := ie_in 1127 (by decide +kernel)
theorem w_1128 : Cond.instanceMethod yX11_sees ∈ ie_T := ie_in 1128 (by decide +kernel)
theorem w_1129 : Cond.selects "NeverHalted" yX11_sees yX11_sees ∈ ie_T := ie_in 1129 (by decide +kernel)
theorem w_1134 : Cond.methodLink "NeverHaltedLaw" 104 yX11_fits ∈ ie_T := ie_in 1134 (by decide +kernel)
theorem w_1135 : Cond.instanceMethod yX11_fits ∈ ie_T := ie_in 1135 (by decide +kernel)
theorem w_1136 : Cond.selects "NeverHalted" yX11_fits yX11_fits ∈ ie_T := ie_in 1136 (by decide +kernel)
theorem w_1152 : Cond.methodLink "NeverHaltedLaw" 109 yX11_crossed ∈ ie_T := ie_in 1152 (by decide +kernel)
theorem w_1153 : Cond.instanceMethod yX11_crossed ∈ ie_T := ie_in 1153 (by decide +kernel)
theorem w_1154 : Cond.selects "NeverHalted" yX11_crossed yX11_crossed ∈ ie_T := ie_in 1154 (by decide +kernel)
theorem w_1157 : Cond.methodLink "NeverHaltedLaw" 113 yX11_line ∈ ie_T := ie_in 1157 (by decide +kernel)
theorem w_1158 : Cond.instanceMethod yX11_line ∈ ie_T := ie_in 1158 (by decide +kernel)
theorem w_1159 : Cond.selects "NeverHalted" yX11_line yX11_line ∈ ie_T := ie_in 1159 (by decide +kernel)
theorem w_1169 : Cond.methodLink "NeverHaltedLaw" 117 yX11_owes ∈ ie_T := ie_in 1169 (by decide +kernel)
theorem w_1170 : Cond.instanceMethod yX11_owes ∈ ie_T := ie_in 1170 (by decide +kernel)
theorem w_1171 : Cond.selects "NeverHalted" yX11_owes yX11_owes ∈ ie_T := ie_in 1171 (by decide +kernel)
theorem w_1178 : Cond.methodLink "NeverHaltedLaw" 121 yX11_asks ∈ ie_T := ie_in 1178 (by decide +kernel)
theorem w_1179 : Cond.instanceMethod yX11_asks ∈ ie_T := ie_in 1179 (by decide +kernel)
theorem w_1180 : Cond.selects "NeverHalted" yX11_asks yX11_asks ∈ ie_T := ie_in 1180 (by decide +kernel)
theorem w_1349 : Cond.methodLink "NeverHaltedLaw" 129 yX12_undo ∈ ie_T := ie_in 1349 (by decide +kernel)
theorem w_1350 : Cond.instanceMethod yX12_undo ∈ ie_T := ie_in 1350 (by decide +kernel)
theorem w_1351 : Cond.selects "NeverHaltedModel" yX12_undo yX12_undo ∈ ie_T := ie_in 1351 (by decide +kernel)
theorem w_1353 : Cond.methodLink "NeverHaltedLaw" 17 yX12_state ∈ ie_T := ie_in 1353 (by decide +kernel)
theorem w_1354 : Cond.instanceMethod yX12_state ∈ ie_T := ie_in 1354 (by decide +kernel)
theorem w_1355 : Cond.selects "NeverHaltedModel" yX12_state yX12_state ∈ ie_T := ie_in 1355 (by decide +kernel)
theorem w_1357 : Cond.methodLink "NeverHaltedLaw" 22 yX12_walker ∈ ie_T := ie_in 1357 (by decide +kernel)
theorem w_1358 : Cond.instanceMethod yX12_walker ∈ ie_T := ie_in 1358 (by decide +kernel)
theorem w_1359 : Cond.selects "NeverHaltedModel" yX12_walker yX12_walker ∈ ie_T := ie_in 1359 (by decide +kernel)
theorem w_1369 : Cond.methodLink "NeverHaltedLaw" 27 yX12_set ∈ ie_T := ie_in 1369 (by decide +kernel)
theorem w_1370 : Cond.instanceMethod yX12_set ∈ ie_T := ie_in 1370 (by decide +kernel)
theorem w_1371 : Cond.selects "NeverHaltedModel" yX12_set yX12_set ∈ ie_T := ie_in 1371 (by decide +kernel)
theorem w_1381 : Cond.methodLink "NeverHaltedLaw" 31 yX12_road ∈ ie_T := ie_in 1381 (by decide +kernel)
theorem w_1382 : Cond.instanceMethod yX12_road ∈ ie_T := ie_in 1382 (by decide +kernel)
theorem w_1383 : Cond.selects "NeverHaltedModel" yX12_road yX12_road ∈ ie_T := ie_in 1383 (by decide +kernel)
theorem w_1385 : Cond.methodLink "NeverHaltedLaw" 74 yX12_roadOf ∈ ie_T := ie_in 1385 (by decide +kernel)
theorem w_1386 : Cond.instanceMethod yX12_roadOf ∈ ie_T := ie_in 1386 (by decide +kernel)
theorem w_1387 : Cond.selects "NeverHaltedModel" yX12_roadOf yX12_roadOf ∈ ie_T := ie_in 1387 (by decide +kernel)
theorem w_1389 : Cond.methodLink "NeverHaltedLaw" 36 yX12_feed ∈ ie_T := ie_in 1389 (by decide +kernel)
theorem w_1390 : Cond.instanceMethod yX12_feed ∈ ie_T := ie_in 1390 (by decide +kernel)
theorem w_1391 : Cond.selects "NeverHaltedModel" yX12_feed yX12_feed ∈ ie_T := ie_in 1391 (by decide +kernel)
theorem w_1397 : Cond.methodLink "NeverHaltedLaw" 41 yX12_end ∈ ie_T := ie_in 1397 (by decide +kernel)
theorem w_1398 : Cond.instanceMethod yX12_end ∈ ie_T := ie_in 1398 (by decide +kernel)
theorem w_1399 : Cond.selects "NeverHaltedModel" yX12_end yX12_end ∈ ie_T := ie_in 1399 (by decide +kernel)
theorem w_1401 : Cond.methodLink "NeverHaltedLaw" 45 yX12_text ∈ ie_T := ie_in 1401 (by decide +kernel)
theorem w_1402 : Cond.instanceMethod yX12_text ∈ ie_T := ie_in 1402 (by decide +kernel)
theorem w_1403 : Cond.selects "NeverHaltedModel" yX12_text yX12_text ∈ ie_T := ie_in 1403 (by decide +kernel)
theorem w_1529 : Cond.methodLink "NeverHaltedLaw" 49 yX12_fault ∈ ie_T := ie_in 1529 (by decide +kernel)
theorem w_1530 : Cond.instanceMethod yX12_fault ∈ ie_T := ie_in 1530 (by decide +kernel)
theorem w_1531 : Cond.selects "NeverHaltedModel" yX12_fault yX12_fault ∈ ie_T := ie_in 1531 (by decide +kernel)
theorem w_1533 : Cond.methodLink "NeverHaltedLaw" 53 yX12_hours ∈ ie_T := ie_in 1533 (by decide +kernel)
theorem w_1534 : Cond.instanceMethod yX12_hours ∈ ie_T := ie_in 1534 (by decide +kernel)
theorem w_1535 : Cond.selects "NeverHaltedModel" yX12_hours yX12_hours ∈ ie_T := ie_in 1535 (by decide +kernel)
theorem w_1647 : Cond.methodLink "NeverHaltedLaw" 58 yX12_move ∈ ie_T := ie_in 1647 (by decide +kernel)
theorem w_1648 : Cond.instanceMethod yX12_move ∈ ie_T := ie_in 1648 (by decide +kernel)
theorem w_1649 : Cond.selects "NeverHaltedModel" yX12_move yX12_move ∈ ie_T := ie_in 1649 (by decide +kernel)
theorem w_1651 : Cond.methodLink "NeverHaltedLaw" 62 yX12_carry ∈ ie_T := ie_in 1651 (by decide +kernel)
theorem w_1652 : Cond.instanceMethod yX12_carry ∈ ie_T := ie_in 1652 (by decide +kernel)
theorem w_1653 : Cond.selects "NeverHaltedModel" yX12_carry yX12_carry ∈ ie_T := ie_in 1653 (by decide +kernel)
theorem w_1655 : Cond.methodLink "NeverHaltedLaw" 66 yX12_of ∈ ie_T := ie_in 1655 (by decide +kernel)
theorem w_1656 : Cond.instanceMethod yX12_of ∈ ie_T := ie_in 1656 (by decide +kernel)
theorem w_1657 : Cond.selects "NeverHaltedModel" yX12_of yX12_of ∈ ie_T := ie_in 1657 (by decide +kernel)
theorem w_1663 : Cond.methodLink "NeverHaltedLaw" 70 yX12_stone ∈ ie_T := ie_in 1663 (by decide +kernel)
theorem w_1664 : Cond.instanceMethod yX12_stone ∈ ie_T := ie_in 1664 (by decide +kernel)
theorem w_1665 : Cond.selects "NeverHaltedModel" yX12_stone yX12_stone ∈ ie_T := ie_in 1665 (by decide +kernel)
theorem w_1667 : Cond.methodLink "NeverHaltedLaw" 78 yX12_book ∈ ie_T := ie_in 1667 (by decide +kernel)
theorem w_1668 : Cond.instanceMethod yX12_book ∈ ie_T := ie_in 1668 (by decide +kernel)
theorem w_1669 : Cond.selects "NeverHaltedModel" yX12_book yX12_book ∈ ie_T := ie_in 1669 (by decide +kernel)
theorem w_1671 : Cond.methodLink "NeverHaltedLaw" 82 yX12_goes ∈ ie_T := ie_in 1671 (by decide +kernel)
theorem w_1672 : Cond.instanceMethod yX12_goes ∈ ie_T := ie_in 1672 (by decide +kernel)
theorem w_1673 : Cond.selects "NeverHaltedModel" yX12_goes yX12_goes ∈ ie_T := ie_in 1673 (by decide +kernel)
theorem w_1687 : Cond.methodLink "NeverHaltedLaw" 86 yX12_cover ∈ ie_T := ie_in 1687 (by decide +kernel)
theorem w_1688 : Cond.instanceMethod yX12_cover ∈ ie_T := ie_in 1688 (by decide +kernel)
theorem w_1689 : Cond.selects "NeverHaltedModel" yX12_cover yX12_cover ∈ ie_T := ie_in 1689 (by decide +kernel)
theorem w_1699 : Cond.methodLink "NeverHaltedLaw" 90 yX12_watches ∈ ie_T := ie_in 1699 (by decide +kernel)
theorem w_1700 : Cond.instanceMethod yX12_watches ∈ ie_T := ie_in 1700 (by decide +kernel)
theorem w_1701 : Cond.selects "NeverHaltedModel" yX12_watches yX12_watches ∈ ie_T := ie_in 1701 (by decide +kernel)
theorem w_1732 : Cond.methodLink "NeverHaltedLaw" 94 yX12_tour ∈ ie_T := ie_in 1732 (by decide +kernel)
theorem w_1733 : Cond.instanceMethod yX12_tour ∈ ie_T := ie_in 1733 (by decide +kernel)
theorem w_1734 : Cond.selects "NeverHaltedModel" yX12_tour yX12_tour ∈ ie_T := ie_in 1734 (by decide +kernel)
theorem w_1752 : Cond.methodLink "NeverHaltedLaw" 99 yX12_meets ∈ ie_T := ie_in 1752 (by decide +kernel)
theorem w_1753 : Cond.instanceMethod yX12_meets ∈ ie_T := ie_in 1753 (by decide +kernel)
theorem w_1754 : Cond.selects "NeverHaltedModel" yX12_meets yX12_meets ∈ ie_T := ie_in 1754 (by decide +kernel)
theorem w_1768 : Cond.methodLink "NeverHaltedLaw" 103 yX12_sees ∈ ie_T := ie_in 1768 (by decide +kernel)
theorem w_1769 : Cond.instanceMethod yX12_sees ∈ ie_T := ie_in 1769 (by decide +kernel)
theorem w_1770 : Cond.selects "NeverHaltedModel" yX12_sees yX12_sees ∈ ie_T := ie_in 1770 (by decide +kernel)
theorem w_1772 : Cond.methodLink "NeverHaltedLaw" 108 yX12_fits ∈ ie_T := ie_in 1772 (by decide +kernel)
theorem w_1773 : Cond.instanceMethod yX12_fits ∈ ie_T := ie_in 1773 (by decide +kernel)
theorem w_1774 : Cond.selects "NeverHaltedModel" yX12_fits yX12_fits ∈ ie_T := ie_in 1774 (by decide +kernel)
theorem w_1784 : Cond.methodLink "NeverHaltedLaw" 112 yX12_crossed ∈ ie_T := ie_in 1784 (by decide +kernel)
theorem w_1785 : Cond.instanceMethod yX12_crossed ∈ ie_T := ie_in 1785 (by decide +kernel)
theorem w_1786 : Cond.selects "NeverHaltedModel" yX12_crossed yX12_crossed ∈ ie_T := ie_in 1786 (by decide +kernel)
theorem w_1789 : Cond.methodLink "NeverHaltedLaw" 116 yX12_line ∈ ie_T := ie_in 1789 (by decide +kernel)
theorem w_1790 : Cond.instanceMethod yX12_line ∈ ie_T := ie_in 1790 (by decide +kernel)
theorem w_1791 : Cond.selects "NeverHaltedModel" yX12_line yX12_line ∈ ie_T := ie_in 1791 (by decide +kernel)
theorem w_1801 : Cond.methodLink "NeverHaltedLaw" 120 yX12_owes ∈ ie_T := ie_in 1801 (by decide +kernel)
theorem w_1802 : Cond.instanceMethod yX12_owes ∈ ie_T := ie_in 1802 (by decide +kernel)
theorem w_1803 : Cond.selects "NeverHaltedModel" yX12_owes yX12_owes ∈ ie_T := ie_in 1803 (by decide +kernel)
theorem w_1814 : Cond.methodLink "NeverHaltedLaw" 124 yX12_asks ∈ ie_T := ie_in 1814 (by decide +kernel)
theorem w_1815 : Cond.instanceMethod yX12_asks ∈ ie_T := ie_in 1815 (by decide +kernel)
theorem w_1816 : Cond.selects "NeverHaltedModel" yX12_asks yX12_asks ∈ ie_T := ie_in 1816 (by decide +kernel)
theorem w_1818 : Cond.methodLink "NeverHaltedLaw" 134 yX12_image ∈ ie_T := ie_in 1818 (by decide +kernel)
theorem w_1819 : Cond.instanceMethod yX12_image ∈ ie_T := ie_in 1819 (by decide +kernel)
theorem w_1820 : Cond.selects "NeverHaltedModel" yX12_image yX12_image ∈ ie_T := ie_in 1820 (by decide +kernel)
theorem w_1834 : Cond.methodLink "NeverHaltedLaw" 138 yX12_look ∈ ie_T := ie_in 1834 (by decide +kernel)
theorem w_1835 : Cond.instanceMethod yX12_look ∈ ie_T := ie_in 1835 (by decide +kernel)
theorem w_1836 : Cond.selects "NeverHaltedModel" yX12_look yX12_look ∈ ie_T := ie_in 1836 (by decide +kernel)
theorem kc_6 : Int32.ofInt 6 = 6 := by decide +kernel
def f_L_law_1056 (xs : Nat → Int32) (nL : Nat) (r18 : Int32 → IM → IR) (x3 : Int32) (y0 : Int32) (y2 : Int32) (M : IM) : IR := cl (f_X12_image y2 M) fun w475 M476 => if y0 = w475 then lt (x3 + 6) fun v479 => r18 v479 M476 else some (0, M476)
set_option maxRecDepth 100000 in
set_option maxHeartbeats 4000000 in
theorem t_L_law_1056 {g : IG} {a : Nat → Nat} {R : Int32 × IM} {r18 : Int32 → IM → IR} {x3 : Int32} {y0 : Int32} {y2 : Int32} {M : IM} (hr18 : ∀ (x3 : Int32) (M : IM), r18 x3 M = some R → V g mL_law 31 600000 7302249 (qI S0 a R) 18 [some (.ref (gb g)), some (.ref (a 0)), some (.ref (a 136)), some (.int x3)] [] a S0 M 165 176927) (h : f_L_law_1056 (gx g) (gL g) r18 x3 y0 y2 M = some R) : V g mL_law 31 600000 7302249 (qI S0 a R) 1056 [some (.ref (gb g)), some (.ref (a 0)), some (.ref (a 136)), some (.int x3)] [.int y2, .ref (a 136), .int y0] a S0 M 165 176927 := by
  unfold f_L_law_1056 at h
  replace h := cl_e h
  obtain ⟨w475, M476, hc477, h⟩ := h
  refine V_ii (As := [.int _]) rfl dL_law_1056 mf_X12_image ⟨w_1819, w_1820⟩ w_1818 (by decide) s0_136 rfl rfl rfl rfl ⟨rfl, rfl⟩ (t_X12_image hc477) ?_
  refine V_icmp_eq (t := 1087) rfl rfl dL_law_1059 (fun hc478 => ?_) (fun hc478 => ?_)
  · replace h := ifp hc478 h
    replace h := lt_e h
    refine V_inc (L' := [_, _, _, _]) rfl dL_law_1087 rfl kc_6 (by decide) rfl ?_
    refine V_goto (t := 18) rfl dL_law_1090 ?_
    exact V_sub (le_s (le_s (le_s (le_s le_0)))) (hr18 _ _ h)
  · replace h := ifn hc478 h
    refine V_iconst (v := 0) rfl dL_law_1062 kc_0 ?_
    cases h
    exact V_iret dL_law_1063 rfl nz_0 (Nat.le_of_ble_eq_true rfl) (Nat.le_of_ble_eq_true rfl) qI_ok
def f_L_law_1039 (xs : Nat → Int32) (nL : Nat) (r18 : Int32 → IM → IR) (x3 : Int32) (y1 : Int32) (M : IM) : IR := cl (f_X11_image y1 M) fun w469 M470 => rx xs nL (x3 + 1) fun v472 => if v472 = 0 then f_L_law_1056 xs nL r18 x3 w469 0 M470 else f_L_law_1056 xs nL r18 x3 w469 1 M470
set_option maxRecDepth 100000 in
set_option maxHeartbeats 4000000 in
theorem t_L_law_1039 {g : IG} {a : Nat → Nat} {R : Int32 × IM} {r18 : Int32 → IM → IR} {x3 : Int32} {y1 : Int32} {M : IM} (hr18 : ∀ (x3 : Int32) (M : IM), r18 x3 M = some R → V g mL_law 31 600000 7302249 (qI S0 a R) 18 [some (.ref (gb g)), some (.ref (a 0)), some (.ref (a 136)), some (.int x3)] [] a S0 M 165 176927) (h : f_L_law_1039 (gx g) (gL g) r18 x3 y1 M = some R) : V g mL_law 31 600000 7302249 (qI S0 a R) 1039 [some (.ref (gb g)), some (.ref (a 0)), some (.ref (a 136)), some (.int x3)] [.int y1, .ref (a 0)] a S0 M 165 176927 := by
  unfold f_L_law_1039 at h
  replace h := cl_e h
  obtain ⟨w469, M470, hc471, h⟩ := h
  refine V_ii (As := [.int _]) rfl dL_law_1039 mf_X11_image ⟨w_954, w_955⟩ w_953 (by decide) s0_0 rfl rfl rfl rfl ⟨rfl, rfl⟩ (t_X11_image hc471) ?_
  refine V_aload_n rfl dL_law_1042 rfl rfl ?_
  refine V_aload_n rfl dL_law_1043 rfl rfl ?_
  refine V_iload_n rfl dL_law_1044 rfl rfl ?_
  refine V_iconst (v := 1) rfl dL_law_1045 kc_1 ?_
  refine V_iadd rfl dL_law_1046 ?_
  replace h := rx_e h
  obtain ⟨hb473, h⟩ := h
  refine V_xld rfl dL_law_1047 hb473 ?_
  refine V_if_eq (t := 1055) rfl rfl dL_law_1048 (fun hc474 => ?_) (fun hc474 => ?_)
  · replace h := ifp hc474 h
    refine V_iconst (v := 0) rfl dL_law_1055 kc_0 ?_
    exact V_sub (le_s (le_s (le_s (le_s le_0)))) (t_L_law_1056 hr18 h)
  · replace h := ifn hc474 h
    refine V_iconst (v := 1) rfl dL_law_1051 kc_1 ?_
    refine V_goto (t := 1056) rfl dL_law_1052 ?_
    exact V_sub (le_s (le_s (le_s (le_s le_0)))) (t_L_law_1056 hr18 h)
def f_L_law_18_b (xs : Nat → Int32) (nL : Nat) (r18 : Int32 → IM → IR) (x3 : Int32) (M : IM) : IR := if ((Int32.ofNat nL) - 6) < x3 then some (1, M) else rx xs nL x3 fun v2 => if (v2 &&& 31) = 0 then rx xs nL (x3 + 1) fun v5 => cl (f_X11_state v5 M) fun w7 M8 => rx xs nL (x3 + 1) fun v10 => cl (f_X12_state v10 M8) fun w12 M13 => if w7 = w12 then lt (x3 + 6) fun v16 => r18 v16 M13 else some (0, M13) else if (v2 &&& 31) = 1 then rx xs nL (x3 + 1) fun v18 => rx xs nL (x3 + 2) fun v20 => cl (f_X11_walker v18 v20 M) fun w22 M23 => rx xs nL (x3 + 1) fun v25 => rx xs nL (x3 + 2) fun v27 => cl (f_X12_walker v25 v27 M23) fun w29 M30 => if w22 = w29 then lt (x3 + 6) fun v33 => r18 v33 M30 else some (0, M30) else if (v2 &&& 31) = 2 then rx xs nL (x3 + 1) fun v35 => rx xs nL (x3 + 2) fun v37 => rx xs nL (x3 + 3) fun v39 => cl (f_X11_set v35 v37 v39 M) fun w41 M42 => rx xs nL (x3 + 1) fun v44 => rx xs nL (x3 + 2) fun v46 => rx xs nL (x3 + 3) fun v48 => cl (f_X12_set v44 v46 v48 M42) fun w50 M51 => if w41 = w50 then lt (x3 + 6) fun v54 => r18 v54 M51 else some (0, M51) else if (v2 &&& 31) = 3 then rx xs nL (x3 + 1) fun v56 => rx xs nL (x3 + 2) fun v58 => rx xs nL (x3 + 3) fun v60 => cl (f_X11_road v56 v58 v60 M) fun w62 M63 => rx xs nL (x3 + 1) fun v65 => rx xs nL (x3 + 2) fun v67 => rx xs nL (x3 + 3) fun v69 => cl (f_X12_road v65 v67 v69 M63) fun w71 M72 => if w62 = w71 then lt (x3 + 6) fun v75 => r18 v75 M72 else some (0, M72) else if (v2 &&& 31) = 4 then rx xs nL (x3 + 1) fun v77 => rx xs nL (x3 + 2) fun v79 => rx xs nL (x3 + 3) fun v81 => rx xs nL (x3 + 4) fun v83 => rx xs nL (x3 + 5) fun v85 => cl (f_X11_feed v77 v79 v81 v83 v85 M) fun w87 M88 => rx xs nL (x3 + 1) fun v90 => rx xs nL (x3 + 2) fun v92 => rx xs nL (x3 + 3) fun v94 => rx xs nL (x3 + 4) fun v96 => rx xs nL (x3 + 5) fun v98 => cl (f_X12_feed v90 v92 v94 v96 v98 M88) fun w100 M101 => if w87 = w100 then lt (x3 + 6) fun v104 => r18 v104 M101 else some (0, M101) else if (v2 &&& 31) = 5 then rx xs nL (x3 + 1) fun v106 => cl (f_X11_end v106 M) fun w108 M109 => rx xs nL (x3 + 1) fun v111 => cl (f_X12_end v111 M109) fun w113 M114 => if w108 = w113 then lt (x3 + 6) fun v117 => r18 v117 M114 else some (0, M114) else if (v2 &&& 31) = 6 then rx xs nL (x3 + 1) fun v119 => cl (f_X11_text v119 M) fun w121 M122 => rx xs nL (x3 + 1) fun v124 => cl (f_X12_text v124 M122) fun w126 M127 => if w121 = w126 then lt (x3 + 6) fun v130 => r18 v130 M127 else some (0, M127) else if (v2 &&& 31) = 7 then rx xs nL (x3 + 1) fun v132 => cl (f_X11_fault v132 M) fun w134 M135 => rx xs nL (x3 + 1) fun v137 => cl (f_X12_fault v137 M135) fun w139 M140 => if w134 = w139 then lt (x3 + 6) fun v143 => r18 v143 M140 else some (0, M140) else if (v2 &&& 31) = 8 then rx xs nL (x3 + 1) fun v145 => cl (f_X11_hours v145 M) fun w147 M148 => rx xs nL (x3 + 1) fun v150 => cl (f_X12_hours v150 M148) fun w152 M153 => if w147 = w152 then lt (x3 + 6) fun v156 => r18 v156 M153 else some (0, M153) else if (v2 &&& 31) = 9 then rx xs nL (x3 + 1) fun v158 => rx xs nL (x3 + 2) fun v160 => cl (f_X11_move v158 v160 M) fun w162 M163 => rx xs nL (x3 + 1) fun v165 => rx xs nL (x3 + 2) fun v167 => cl (f_X12_move v165 v167 M163) fun w169 M170 => if w162 = w169 then lt (x3 + 6) fun v173 => r18 v173 M170 else some (0, M170) else if (v2 &&& 31) = 10 then rx xs nL (x3 + 1) fun v175 => cl (f_X11_carry v175 M) fun w177 M178 => rx xs nL (x3 + 1) fun v180 => cl (f_X12_carry v180 M178) fun w182 M183 => if w177 = w182 then lt (x3 + 6) fun v186 => r18 v186 M183 else some (0, M183) else if (v2 &&& 31) = 11 then rx xs nL (x3 + 1) fun v188 => rx xs nL (x3 + 2) fun v190 => cl (f_X11_of v188 v190 M) fun w192 M193 => rx xs nL (x3 + 1) fun v195 => rx xs nL (x3 + 2) fun v197 => cl (f_X12_of v195 v197 M193) fun w199 M200 => if w192 = w199 then lt (x3 + 6) fun v203 => r18 v203 M200 else some (0, M200) else if (v2 &&& 31) = 12 then rx xs nL (x3 + 1) fun v205 => rx xs nL (x3 + 2) fun v207 => cl (f_X11_stone v205 v207 M) fun w209 M210 => rx xs nL (x3 + 1) fun v212 => rx xs nL (x3 + 2) fun v214 => cl (f_X12_stone v212 v214 M210) fun w216 M217 => if w209 = w216 then lt (x3 + 6) fun v220 => r18 v220 M217 else some (0, M217) else if (v2 &&& 31) = 13 then rx xs nL (x3 + 1) fun v222 => rx xs nL (x3 + 2) fun v224 => cl (f_X11_roadOf v222 v224 M) fun w226 M227 => rx xs nL (x3 + 1) fun v229 => rx xs nL (x3 + 2) fun v231 => cl (f_X12_roadOf v229 v231 M227) fun w233 M234 => if w226 = w233 then lt (x3 + 6) fun v237 => r18 v237 M234 else some (0, M234) else if (v2 &&& 31) = 14 then rx xs nL (x3 + 1) fun v239 => rx xs nL (x3 + 2) fun v241 => cl (f_X11_book v239 v241 M) fun w243 M244 => rx xs nL (x3 + 1) fun v246 => rx xs nL (x3 + 2) fun v248 => cl (f_X12_book v246 v248 M244) fun w250 M251 => if w243 = w250 then lt (x3 + 6) fun v254 => r18 v254 M251 else some (0, M251) else if (v2 &&& 31) = 15 then rx xs nL (x3 + 1) fun v256 => rx xs nL (x3 + 2) fun v258 => cl (f_X11_goes v256 v258 M) fun w260 M261 => rx xs nL (x3 + 1) fun v263 => rx xs nL (x3 + 2) fun v265 => cl (f_X12_goes v263 v265 M261) fun w267 M268 => if w260 = w267 then lt (x3 + 6) fun v271 => r18 v271 M268 else some (0, M268) else if (v2 &&& 31) = 16 then rx xs nL (x3 + 1) fun v273 => cl (f_X11_cover v273 M) fun w275 M276 => rx xs nL (x3 + 1) fun v278 => cl (f_X12_cover v278 M276) fun w280 M281 => if w275 = w280 then lt (x3 + 6) fun v284 => r18 v284 M281 else some (0, M281) else if (v2 &&& 31) = 17 then rx xs nL (x3 + 1) fun v286 => cl (f_X11_watches v286 M) fun w288 M289 => rx xs nL (x3 + 1) fun v291 => cl (f_X12_watches v291 M289) fun w293 M294 => if w288 = w293 then lt (x3 + 6) fun v297 => r18 v297 M294 else some (0, M294) else if (v2 &&& 31) = 18 then rx xs nL (x3 + 1) fun v299 => rx xs nL (x3 + 2) fun v301 => cl (f_X11_tour v299 v301 M) fun w303 M304 => rx xs nL (x3 + 1) fun v306 => rx xs nL (x3 + 2) fun v308 => cl (f_X12_tour v306 v308 M304) fun w310 M311 => if w303 = w310 then lt (x3 + 6) fun v314 => r18 v314 M311 else some (0, M311) else if (v2 &&& 31) = 19 then rx xs nL (x3 + 1) fun v316 => rx xs nL (x3 + 2) fun v318 => rx xs nL (x3 + 3) fun v320 => cl (f_X11_meets v316 v318 v320 M) fun w322 M323 => rx xs nL (x3 + 1) fun v325 => rx xs nL (x3 + 2) fun v327 => rx xs nL (x3 + 3) fun v329 => cl (f_X12_meets v325 v327 v329 M323) fun w331 M332 => if w322 = w331 then lt (x3 + 6) fun v335 => r18 v335 M332 else some (0, M332) else if (v2 &&& 31) = 20 then rx xs nL (x3 + 1) fun v337 => rx xs nL (x3 + 2) fun v339 => rx xs nL (x3 + 3) fun v341 => cl (f_X11_sees v337 v339 v341 M) fun w343 M344 => rx xs nL (x3 + 1) fun v346 => rx xs nL (x3 + 2) fun v348 => rx xs nL (x3 + 3) fun v350 => cl (f_X12_sees v346 v348 v350 M344) fun w352 M353 => if w343 = w352 then lt (x3 + 6) fun v356 => r18 v356 M353 else some (0, M353) else if (v2 &&& 31) = 21 then rx xs nL (x3 + 1) fun v358 => rx xs nL (x3 + 2) fun v360 => rx xs nL (x3 + 3) fun v362 => rx xs nL (x3 + 4) fun v364 => cl (f_X11_fits v358 v360 v362 v364 M) fun w366 M367 => rx xs nL (x3 + 1) fun v369 => rx xs nL (x3 + 2) fun v371 => rx xs nL (x3 + 3) fun v373 => rx xs nL (x3 + 4) fun v375 => cl (f_X12_fits v369 v371 v373 v375 M367) fun w377 M378 => if w366 = w377 then lt (x3 + 6) fun v381 => r18 v381 M378 else some (0, M378) else if (v2 &&& 31) = 22 then rx xs nL (x3 + 1) fun v383 => rx xs nL (x3 + 2) fun v385 => cl (f_X11_crossed v383 v385 M) fun w387 M388 => rx xs nL (x3 + 1) fun v390 => rx xs nL (x3 + 2) fun v392 => cl (f_X12_crossed v390 v392 M388) fun w394 M395 => if w387 = w394 then lt (x3 + 6) fun v398 => r18 v398 M395 else some (0, M395) else if (v2 &&& 31) = 23 then rx xs nL (x3 + 1) fun v400 => cl (f_X11_line v400 M) fun w402 M403 => rx xs nL (x3 + 1) fun v405 => cl (f_X12_line v405 M403) fun w407 M408 => if w402 = w407 then lt (x3 + 6) fun v411 => r18 v411 M408 else some (0, M408) else if (v2 &&& 31) = 24 then rx xs nL (x3 + 1) fun v413 => rx xs nL (x3 + 2) fun v415 => cl (f_X11_owes v413 v415 M) fun w417 M418 => rx xs nL (x3 + 1) fun v420 => rx xs nL (x3 + 2) fun v422 => cl (f_X12_owes v420 v422 M418) fun w424 M425 => if w417 = w424 then lt (x3 + 6) fun v428 => r18 v428 M425 else some (0, M425) else if (v2 &&& 31) = 25 then rx xs nL (x3 + 1) fun v430 => cl (f_X11_asks v430 M) fun w432 M433 => rx xs nL (x3 + 1) fun v435 => cl (f_X12_asks v435 M433) fun w437 M438 => if w432 = w437 then lt (x3 + 6) fun v441 => r18 v441 M438 else some (0, M438) else if (v2 &&& 31) = 26 then cl (f_X11_undo M) fun w443 M444 => cl (f_X12_undo M444) fun w446 M447 => if w443 = w446 then lt (x3 + 6) fun v450 => r18 v450 M447 else some (0, M447) else if (v2 &&& 31) = 27 then rx xs nL (x3 + 1) fun v452 => if v452 = 0 then f_L_law_1039 xs nL r18 x3 0 M else f_L_law_1039 xs nL r18 x3 1 M else if (v2 &&& 31) = 28 then rx xs nL (x3 + 1) fun v456 => cl (f_X11_look v456 M) fun w458 M459 => rx xs nL (x3 + 1) fun v461 => cl (f_X12_look v461 M459) fun w463 M464 => if w458 = w463 then lt (x3 + 6) fun v467 => r18 v467 M464 else some (0, M464) else lt (x3 + 6) fun v468 => r18 v468 M
def f_L_law_18 (xs : Nat → Int32) (nL : Nat) (n : Nat) : Int32 → IM → IR := itr (fun _ _ => none) (f_L_law_18_b xs nL) n
set_option maxRecDepth 100000 in
set_option maxHeartbeats 4000000 in
theorem t_L_law_18 {g : IG} {a : Nat → Nat} {R : Int32 × IM} (n : Nat) : ∀ (x3 : Int32) (M : IM), f_L_law_18 (gx g) (gL g) n x3 M = some R → V g mL_law 31 600000 7302249 (qI S0 a R) 18 [some (.ref (gb g)), some (.ref (a 0)), some (.ref (a 136)), some (.int x3)] [] a S0 M 165 176927 := by
  induction n with
  | zero => intro x3 M h; exact absurd h (fun z => by cases z)
  | succ n hr18 =>
    intro x3 M h
    replace h : f_L_law_18_b (gx g) (gL g) (f_L_law_18 (gx g) (gL g) n) x3 M = some R := h
    unfold f_L_law_18_b at h
    refine V_iload_n rfl dL_law_18 rfl rfl ?_
    refine V_aload_n rfl dL_law_19 rfl rfl ?_
    refine V_xln rfl dL_law_20 ?_
    refine V_bipush (v := 6) rfl dL_law_21 kb_6 ?_
    refine V_isub rfl dL_law_23 ?_
    refine V_icmp_gt (t := 1093) rfl rfl dL_law_24 (fun hc1 => ?_) (fun hc1 => ?_)
    · replace h := ifp hc1 h
      refine V_iconst (v := 1) rfl dL_law_1093 kc_1 ?_
      cases h
      exact V_iret dL_law_1094 rfl nz_1 (Nat.le_of_ble_eq_true rfl) (Nat.le_of_ble_eq_true rfl) qI_ok
    · replace h := ifn hc1 h
      refine V_aload_n rfl dL_law_27 rfl rfl ?_
      refine V_iload_n rfl dL_law_28 rfl rfl ?_
      replace h := rx_e h
      obtain ⟨hb3, h⟩ := h
      refine V_xld rfl dL_law_29 hb3 ?_
      refine V_bipush (v := 31) rfl dL_law_30 kb_31 ?_
      refine V_iand rfl dL_law_32 ?_
      replace h := ift h
      rcases h with ⟨hc4, h⟩ | ⟨hc4, h⟩
      · refine V_tabAt (off := 131) (t := 164) hc4 dL_law_33 (by decide +kernel) rfl ?_
        refine V_aload_n rfl dL_law_164 rfl rfl ?_
        refine V_aload_n rfl dL_law_165 rfl rfl ?_
        refine V_iload_n rfl dL_law_166 rfl rfl ?_
        refine V_iconst (v := 1) rfl dL_law_167 kc_1 ?_
        refine V_iadd rfl dL_law_168 ?_
        replace h := rx_e h
        obtain ⟨hb6, h⟩ := h
        refine V_xld rfl dL_law_169 hb6 ?_
        replace h := cl_e h
        obtain ⟨w7, M8, hc9, h⟩ := h
        refine V_ii (As := [.int _]) rfl dL_law_170 mf_X11_state ⟨w_579, w_580⟩ w_578 (by decide) s0_0 rfl rfl rfl rfl ⟨rfl, rfl⟩ (t_X11_state hc9) ?_
        refine V_aload_n rfl dL_law_173 rfl rfl ?_
        refine V_aload_n rfl dL_law_174 rfl rfl ?_
        refine V_iload_n rfl dL_law_175 rfl rfl ?_
        refine V_iconst (v := 1) rfl dL_law_176 kc_1 ?_
        refine V_iadd rfl dL_law_177 ?_
        replace h := rx_e h
        obtain ⟨hb11, h⟩ := h
        refine V_xld rfl dL_law_178 hb11 ?_
        replace h := cl_e h
        obtain ⟨w12, M13, hc14, h⟩ := h
        refine V_ii (As := [.int _]) rfl dL_law_179 mf_X12_state ⟨w_1354, w_1355⟩ w_1353 (by decide) s0_136 rfl rfl rfl rfl ⟨rfl, rfl⟩ (t_X12_state hc14) ?_
        refine V_icmp_eq (t := 1087) rfl rfl dL_law_182 (fun hc15 => ?_) (fun hc15 => ?_)
        · replace h := ifp hc15 h
          replace h := lt_e h
          refine V_inc (L' := [_, _, _, _]) rfl dL_law_1087 rfl kc_6 (by decide) rfl ?_
          refine V_goto (t := 18) rfl dL_law_1090 ?_
          exact V_sub (le_s (le_s (le_s (le_s le_0)))) (hr18 _ _ h)
        · replace h := ifn hc15 h
          refine V_iconst (v := 0) rfl dL_law_185 kc_0 ?_
          cases h
          exact V_iret dL_law_186 rfl nz_0 (Nat.le_of_ble_eq_true rfl) (Nat.le_of_ble_eq_true rfl) qI_ok
      replace h := ift h
      rcases h with ⟨hc17, h⟩ | ⟨hc17, h⟩
      · refine V_tabAt (off := 154) (t := 187) hc17 dL_law_33 (by decide +kernel) rfl ?_
        refine V_aload_n rfl dL_law_187 rfl rfl ?_
        refine V_aload_n rfl dL_law_188 rfl rfl ?_
        refine V_iload_n rfl dL_law_189 rfl rfl ?_
        refine V_iconst (v := 1) rfl dL_law_190 kc_1 ?_
        refine V_iadd rfl dL_law_191 ?_
        replace h := rx_e h
        obtain ⟨hb19, h⟩ := h
        refine V_xld rfl dL_law_192 hb19 ?_
        refine V_aload_n rfl dL_law_193 rfl rfl ?_
        refine V_iload_n rfl dL_law_194 rfl rfl ?_
        refine V_iconst (v := 2) rfl dL_law_195 kc_2 ?_
        refine V_iadd rfl dL_law_196 ?_
        replace h := rx_e h
        obtain ⟨hb21, h⟩ := h
        refine V_xld rfl dL_law_197 hb21 ?_
        replace h := cl_e h
        obtain ⟨w22, M23, hc24, h⟩ := h
        refine V_ii (As := [.int _, .int _]) rfl dL_law_198 mf_X11_walker ⟨w_587, w_588⟩ w_586 (by decide) s0_0 rfl rfl rfl rfl ⟨rfl, rfl⟩ (t_X11_walker hc24) ?_
        refine V_aload_n rfl dL_law_201 rfl rfl ?_
        refine V_aload_n rfl dL_law_202 rfl rfl ?_
        refine V_iload_n rfl dL_law_203 rfl rfl ?_
        refine V_iconst (v := 1) rfl dL_law_204 kc_1 ?_
        refine V_iadd rfl dL_law_205 ?_
        replace h := rx_e h
        obtain ⟨hb26, h⟩ := h
        refine V_xld rfl dL_law_206 hb26 ?_
        refine V_aload_n rfl dL_law_207 rfl rfl ?_
        refine V_iload_n rfl dL_law_208 rfl rfl ?_
        refine V_iconst (v := 2) rfl dL_law_209 kc_2 ?_
        refine V_iadd rfl dL_law_210 ?_
        replace h := rx_e h
        obtain ⟨hb28, h⟩ := h
        refine V_xld rfl dL_law_211 hb28 ?_
        replace h := cl_e h
        obtain ⟨w29, M30, hc31, h⟩ := h
        refine V_ii (As := [.int _, .int _]) rfl dL_law_212 mf_X12_walker ⟨w_1358, w_1359⟩ w_1357 (by decide) s0_136 rfl rfl rfl rfl ⟨rfl, rfl⟩ (t_X12_walker hc31) ?_
        refine V_icmp_eq (t := 1087) rfl rfl dL_law_215 (fun hc32 => ?_) (fun hc32 => ?_)
        · replace h := ifp hc32 h
          replace h := lt_e h
          refine V_inc (L' := [_, _, _, _]) rfl dL_law_1087 rfl kc_6 (by decide) rfl ?_
          refine V_goto (t := 18) rfl dL_law_1090 ?_
          exact V_sub (le_s (le_s (le_s (le_s le_0)))) (hr18 _ _ h)
        · replace h := ifn hc32 h
          refine V_iconst (v := 0) rfl dL_law_218 kc_0 ?_
          cases h
          exact V_iret dL_law_219 rfl nz_0 (Nat.le_of_ble_eq_true rfl) (Nat.le_of_ble_eq_true rfl) qI_ok
      replace h := ift h
      rcases h with ⟨hc34, h⟩ | ⟨hc34, h⟩
      · refine V_tabAt (off := 187) (t := 220) hc34 dL_law_33 (by decide +kernel) rfl ?_
        refine V_aload_n rfl dL_law_220 rfl rfl ?_
        refine V_aload_n rfl dL_law_221 rfl rfl ?_
        refine V_iload_n rfl dL_law_222 rfl rfl ?_
        refine V_iconst (v := 1) rfl dL_law_223 kc_1 ?_
        refine V_iadd rfl dL_law_224 ?_
        replace h := rx_e h
        obtain ⟨hb36, h⟩ := h
        refine V_xld rfl dL_law_225 hb36 ?_
        refine V_aload_n rfl dL_law_226 rfl rfl ?_
        refine V_iload_n rfl dL_law_227 rfl rfl ?_
        refine V_iconst (v := 2) rfl dL_law_228 kc_2 ?_
        refine V_iadd rfl dL_law_229 ?_
        replace h := rx_e h
        obtain ⟨hb38, h⟩ := h
        refine V_xld rfl dL_law_230 hb38 ?_
        refine V_aload_n rfl dL_law_231 rfl rfl ?_
        refine V_iload_n rfl dL_law_232 rfl rfl ?_
        refine V_iconst (v := 3) rfl dL_law_233 kc_3 ?_
        refine V_iadd rfl dL_law_234 ?_
        replace h := rx_e h
        obtain ⟨hb40, h⟩ := h
        refine V_xld rfl dL_law_235 hb40 ?_
        replace h := cl_e h
        obtain ⟨w41, M42, hc43, h⟩ := h
        refine V_ii (As := [.int _, .int _, .int _]) rfl dL_law_236 mf_X11_set ⟨w_597, w_598⟩ w_596 (by decide) s0_0 rfl rfl rfl rfl ⟨rfl, rfl⟩ (t_X11_set hc43) ?_
        refine V_aload_n rfl dL_law_239 rfl rfl ?_
        refine V_aload_n rfl dL_law_240 rfl rfl ?_
        refine V_iload_n rfl dL_law_241 rfl rfl ?_
        refine V_iconst (v := 1) rfl dL_law_242 kc_1 ?_
        refine V_iadd rfl dL_law_243 ?_
        replace h := rx_e h
        obtain ⟨hb45, h⟩ := h
        refine V_xld rfl dL_law_244 hb45 ?_
        refine V_aload_n rfl dL_law_245 rfl rfl ?_
        refine V_iload_n rfl dL_law_246 rfl rfl ?_
        refine V_iconst (v := 2) rfl dL_law_247 kc_2 ?_
        refine V_iadd rfl dL_law_248 ?_
        replace h := rx_e h
        obtain ⟨hb47, h⟩ := h
        refine V_xld rfl dL_law_249 hb47 ?_
        refine V_aload_n rfl dL_law_250 rfl rfl ?_
        refine V_iload_n rfl dL_law_251 rfl rfl ?_
        refine V_iconst (v := 3) rfl dL_law_252 kc_3 ?_
        refine V_iadd rfl dL_law_253 ?_
        replace h := rx_e h
        obtain ⟨hb49, h⟩ := h
        refine V_xld rfl dL_law_254 hb49 ?_
        replace h := cl_e h
        obtain ⟨w50, M51, hc52, h⟩ := h
        refine V_ii (As := [.int _, .int _, .int _]) rfl dL_law_255 mf_X12_set ⟨w_1370, w_1371⟩ w_1369 (by decide) s0_136 rfl rfl rfl rfl ⟨rfl, rfl⟩ (t_X12_set hc52) ?_
        refine V_icmp_eq (t := 1087) rfl rfl dL_law_258 (fun hc53 => ?_) (fun hc53 => ?_)
        · replace h := ifp hc53 h
          replace h := lt_e h
          refine V_inc (L' := [_, _, _, _]) rfl dL_law_1087 rfl kc_6 (by decide) rfl ?_
          refine V_goto (t := 18) rfl dL_law_1090 ?_
          exact V_sub (le_s (le_s (le_s (le_s le_0)))) (hr18 _ _ h)
        · replace h := ifn hc53 h
          refine V_iconst (v := 0) rfl dL_law_261 kc_0 ?_
          cases h
          exact V_iret dL_law_262 rfl nz_0 (Nat.le_of_ble_eq_true rfl) (Nat.le_of_ble_eq_true rfl) qI_ok
      replace h := ift h
      rcases h with ⟨hc55, h⟩ | ⟨hc55, h⟩
      · refine V_tabAt (off := 230) (t := 263) hc55 dL_law_33 (by decide +kernel) rfl ?_
        refine V_aload_n rfl dL_law_263 rfl rfl ?_
        refine V_aload_n rfl dL_law_264 rfl rfl ?_
        refine V_iload_n rfl dL_law_265 rfl rfl ?_
        refine V_iconst (v := 1) rfl dL_law_266 kc_1 ?_
        refine V_iadd rfl dL_law_267 ?_
        replace h := rx_e h
        obtain ⟨hb57, h⟩ := h
        refine V_xld rfl dL_law_268 hb57 ?_
        refine V_aload_n rfl dL_law_269 rfl rfl ?_
        refine V_iload_n rfl dL_law_270 rfl rfl ?_
        refine V_iconst (v := 2) rfl dL_law_271 kc_2 ?_
        refine V_iadd rfl dL_law_272 ?_
        replace h := rx_e h
        obtain ⟨hb59, h⟩ := h
        refine V_xld rfl dL_law_273 hb59 ?_
        refine V_aload_n rfl dL_law_274 rfl rfl ?_
        refine V_iload_n rfl dL_law_275 rfl rfl ?_
        refine V_iconst (v := 3) rfl dL_law_276 kc_3 ?_
        refine V_iadd rfl dL_law_277 ?_
        replace h := rx_e h
        obtain ⟨hb61, h⟩ := h
        refine V_xld rfl dL_law_278 hb61 ?_
        replace h := cl_e h
        obtain ⟨w62, M63, hc64, h⟩ := h
        refine V_ii (As := [.int _, .int _, .int _]) rfl dL_law_279 mf_X11_road ⟨w_609, w_610⟩ w_608 (by decide) s0_0 rfl rfl rfl rfl ⟨rfl, rfl⟩ (t_X11_road hc64) ?_
        refine V_aload_n rfl dL_law_282 rfl rfl ?_
        refine V_aload_n rfl dL_law_283 rfl rfl ?_
        refine V_iload_n rfl dL_law_284 rfl rfl ?_
        refine V_iconst (v := 1) rfl dL_law_285 kc_1 ?_
        refine V_iadd rfl dL_law_286 ?_
        replace h := rx_e h
        obtain ⟨hb66, h⟩ := h
        refine V_xld rfl dL_law_287 hb66 ?_
        refine V_aload_n rfl dL_law_288 rfl rfl ?_
        refine V_iload_n rfl dL_law_289 rfl rfl ?_
        refine V_iconst (v := 2) rfl dL_law_290 kc_2 ?_
        refine V_iadd rfl dL_law_291 ?_
        replace h := rx_e h
        obtain ⟨hb68, h⟩ := h
        refine V_xld rfl dL_law_292 hb68 ?_
        refine V_aload_n rfl dL_law_293 rfl rfl ?_
        refine V_iload_n rfl dL_law_294 rfl rfl ?_
        refine V_iconst (v := 3) rfl dL_law_295 kc_3 ?_
        refine V_iadd rfl dL_law_296 ?_
        replace h := rx_e h
        obtain ⟨hb70, h⟩ := h
        refine V_xld rfl dL_law_297 hb70 ?_
        replace h := cl_e h
        obtain ⟨w71, M72, hc73, h⟩ := h
        refine V_ii (As := [.int _, .int _, .int _]) rfl dL_law_298 mf_X12_road ⟨w_1382, w_1383⟩ w_1381 (by decide) s0_136 rfl rfl rfl rfl ⟨rfl, rfl⟩ (t_X12_road hc73) ?_
        refine V_icmp_eq (t := 1087) rfl rfl dL_law_301 (fun hc74 => ?_) (fun hc74 => ?_)
        · replace h := ifp hc74 h
          replace h := lt_e h
          refine V_inc (L' := [_, _, _, _]) rfl dL_law_1087 rfl kc_6 (by decide) rfl ?_
          refine V_goto (t := 18) rfl dL_law_1090 ?_
          exact V_sub (le_s (le_s (le_s (le_s le_0)))) (hr18 _ _ h)
        · replace h := ifn hc74 h
          refine V_iconst (v := 0) rfl dL_law_304 kc_0 ?_
          cases h
          exact V_iret dL_law_305 rfl nz_0 (Nat.le_of_ble_eq_true rfl) (Nat.le_of_ble_eq_true rfl) qI_ok
      replace h := ift h
      rcases h with ⟨hc76, h⟩ | ⟨hc76, h⟩
      · refine V_tabAt (off := 273) (t := 306) hc76 dL_law_33 (by decide +kernel) rfl ?_
        refine V_aload_n rfl dL_law_306 rfl rfl ?_
        refine V_aload_n rfl dL_law_307 rfl rfl ?_
        refine V_iload_n rfl dL_law_308 rfl rfl ?_
        refine V_iconst (v := 1) rfl dL_law_309 kc_1 ?_
        refine V_iadd rfl dL_law_310 ?_
        replace h := rx_e h
        obtain ⟨hb78, h⟩ := h
        refine V_xld rfl dL_law_311 hb78 ?_
        refine V_aload_n rfl dL_law_312 rfl rfl ?_
        refine V_iload_n rfl dL_law_313 rfl rfl ?_
        refine V_iconst (v := 2) rfl dL_law_314 kc_2 ?_
        refine V_iadd rfl dL_law_315 ?_
        replace h := rx_e h
        obtain ⟨hb80, h⟩ := h
        refine V_xld rfl dL_law_316 hb80 ?_
        refine V_aload_n rfl dL_law_317 rfl rfl ?_
        refine V_iload_n rfl dL_law_318 rfl rfl ?_
        refine V_iconst (v := 3) rfl dL_law_319 kc_3 ?_
        refine V_iadd rfl dL_law_320 ?_
        replace h := rx_e h
        obtain ⟨hb82, h⟩ := h
        refine V_xld rfl dL_law_321 hb82 ?_
        refine V_aload_n rfl dL_law_322 rfl rfl ?_
        refine V_iload_n rfl dL_law_323 rfl rfl ?_
        refine V_iconst (v := 4) rfl dL_law_324 kc_4 ?_
        refine V_iadd rfl dL_law_325 ?_
        replace h := rx_e h
        obtain ⟨hb84, h⟩ := h
        refine V_xld rfl dL_law_326 hb84 ?_
        refine V_aload_n rfl dL_law_327 rfl rfl ?_
        refine V_iload_n rfl dL_law_328 rfl rfl ?_
        refine V_iconst (v := 5) rfl dL_law_329 kc_5 ?_
        refine V_iadd rfl dL_law_330 ?_
        replace h := rx_e h
        obtain ⟨hb86, h⟩ := h
        refine V_xld rfl dL_law_331 hb86 ?_
        replace h := cl_e h
        obtain ⟨w87, M88, hc89, h⟩ := h
        refine V_ii (As := [.int _, .int _, .int _, .int _, .int _]) rfl dL_law_332 mf_X11_feed ⟨w_613, w_614⟩ w_612 (by decide) s0_0 rfl rfl rfl rfl ⟨rfl, rfl⟩ (t_X11_feed hc89) ?_
        refine V_aload_n rfl dL_law_335 rfl rfl ?_
        refine V_aload_n rfl dL_law_336 rfl rfl ?_
        refine V_iload_n rfl dL_law_337 rfl rfl ?_
        refine V_iconst (v := 1) rfl dL_law_338 kc_1 ?_
        refine V_iadd rfl dL_law_339 ?_
        replace h := rx_e h
        obtain ⟨hb91, h⟩ := h
        refine V_xld rfl dL_law_340 hb91 ?_
        refine V_aload_n rfl dL_law_341 rfl rfl ?_
        refine V_iload_n rfl dL_law_342 rfl rfl ?_
        refine V_iconst (v := 2) rfl dL_law_343 kc_2 ?_
        refine V_iadd rfl dL_law_344 ?_
        replace h := rx_e h
        obtain ⟨hb93, h⟩ := h
        refine V_xld rfl dL_law_345 hb93 ?_
        refine V_aload_n rfl dL_law_346 rfl rfl ?_
        refine V_iload_n rfl dL_law_347 rfl rfl ?_
        refine V_iconst (v := 3) rfl dL_law_348 kc_3 ?_
        refine V_iadd rfl dL_law_349 ?_
        replace h := rx_e h
        obtain ⟨hb95, h⟩ := h
        refine V_xld rfl dL_law_350 hb95 ?_
        refine V_aload_n rfl dL_law_351 rfl rfl ?_
        refine V_iload_n rfl dL_law_352 rfl rfl ?_
        refine V_iconst (v := 4) rfl dL_law_353 kc_4 ?_
        refine V_iadd rfl dL_law_354 ?_
        replace h := rx_e h
        obtain ⟨hb97, h⟩ := h
        refine V_xld rfl dL_law_355 hb97 ?_
        refine V_aload_n rfl dL_law_356 rfl rfl ?_
        refine V_iload_n rfl dL_law_357 rfl rfl ?_
        refine V_iconst (v := 5) rfl dL_law_358 kc_5 ?_
        refine V_iadd rfl dL_law_359 ?_
        replace h := rx_e h
        obtain ⟨hb99, h⟩ := h
        refine V_xld rfl dL_law_360 hb99 ?_
        replace h := cl_e h
        obtain ⟨w100, M101, hc102, h⟩ := h
        refine V_ii (As := [.int _, .int _, .int _, .int _, .int _]) rfl dL_law_361 mf_X12_feed ⟨w_1390, w_1391⟩ w_1389 (by decide) s0_136 rfl rfl rfl rfl ⟨rfl, rfl⟩ (t_X12_feed hc102) ?_
        refine V_icmp_eq (t := 1087) rfl rfl dL_law_364 (fun hc103 => ?_) (fun hc103 => ?_)
        · replace h := ifp hc103 h
          replace h := lt_e h
          refine V_inc (L' := [_, _, _, _]) rfl dL_law_1087 rfl kc_6 (by decide) rfl ?_
          refine V_goto (t := 18) rfl dL_law_1090 ?_
          exact V_sub (le_s (le_s (le_s (le_s le_0)))) (hr18 _ _ h)
        · replace h := ifn hc103 h
          refine V_iconst (v := 0) rfl dL_law_367 kc_0 ?_
          cases h
          exact V_iret dL_law_368 rfl nz_0 (Nat.le_of_ble_eq_true rfl) (Nat.le_of_ble_eq_true rfl) qI_ok
      replace h := ift h
      rcases h with ⟨hc105, h⟩ | ⟨hc105, h⟩
      · refine V_tabAt (off := 336) (t := 369) hc105 dL_law_33 (by decide +kernel) rfl ?_
        refine V_aload_n rfl dL_law_369 rfl rfl ?_
        refine V_aload_n rfl dL_law_370 rfl rfl ?_
        refine V_iload_n rfl dL_law_371 rfl rfl ?_
        refine V_iconst (v := 1) rfl dL_law_372 kc_1 ?_
        refine V_iadd rfl dL_law_373 ?_
        replace h := rx_e h
        obtain ⟨hb107, h⟩ := h
        refine V_xld rfl dL_law_374 hb107 ?_
        replace h := cl_e h
        obtain ⟨w108, M109, hc110, h⟩ := h
        refine V_ii (As := [.int _]) rfl dL_law_375 mf_X11_end ⟨w_621, w_622⟩ w_620 (by decide) s0_0 rfl rfl rfl rfl ⟨rfl, rfl⟩ (t_X11_end hc110) ?_
        refine V_aload_n rfl dL_law_378 rfl rfl ?_
        refine V_aload_n rfl dL_law_379 rfl rfl ?_
        refine V_iload_n rfl dL_law_380 rfl rfl ?_
        refine V_iconst (v := 1) rfl dL_law_381 kc_1 ?_
        refine V_iadd rfl dL_law_382 ?_
        replace h := rx_e h
        obtain ⟨hb112, h⟩ := h
        refine V_xld rfl dL_law_383 hb112 ?_
        replace h := cl_e h
        obtain ⟨w113, M114, hc115, h⟩ := h
        refine V_ii (As := [.int _]) rfl dL_law_384 mf_X12_end ⟨w_1398, w_1399⟩ w_1397 (by decide) s0_136 rfl rfl rfl rfl ⟨rfl, rfl⟩ (t_X12_end hc115) ?_
        refine V_icmp_eq (t := 1087) rfl rfl dL_law_387 (fun hc116 => ?_) (fun hc116 => ?_)
        · replace h := ifp hc116 h
          replace h := lt_e h
          refine V_inc (L' := [_, _, _, _]) rfl dL_law_1087 rfl kc_6 (by decide) rfl ?_
          refine V_goto (t := 18) rfl dL_law_1090 ?_
          exact V_sub (le_s (le_s (le_s (le_s le_0)))) (hr18 _ _ h)
        · replace h := ifn hc116 h
          refine V_iconst (v := 0) rfl dL_law_390 kc_0 ?_
          cases h
          exact V_iret dL_law_391 rfl nz_0 (Nat.le_of_ble_eq_true rfl) (Nat.le_of_ble_eq_true rfl) qI_ok
      replace h := ift h
      rcases h with ⟨hc118, h⟩ | ⟨hc118, h⟩
      · refine V_tabAt (off := 359) (t := 392) hc118 dL_law_33 (by decide +kernel) rfl ?_
        refine V_aload_n rfl dL_law_392 rfl rfl ?_
        refine V_aload_n rfl dL_law_393 rfl rfl ?_
        refine V_iload_n rfl dL_law_394 rfl rfl ?_
        refine V_iconst (v := 1) rfl dL_law_395 kc_1 ?_
        refine V_iadd rfl dL_law_396 ?_
        replace h := rx_e h
        obtain ⟨hb120, h⟩ := h
        refine V_xld rfl dL_law_397 hb120 ?_
        replace h := cl_e h
        obtain ⟨w121, M122, hc123, h⟩ := h
        refine V_ii (As := [.int _]) rfl dL_law_398 mf_X11_text ⟨w_625, w_626⟩ w_624 (by decide) s0_0 rfl rfl rfl rfl ⟨rfl, rfl⟩ (t_X11_text hc123) ?_
        refine V_aload_n rfl dL_law_401 rfl rfl ?_
        refine V_aload_n rfl dL_law_402 rfl rfl ?_
        refine V_iload_n rfl dL_law_403 rfl rfl ?_
        refine V_iconst (v := 1) rfl dL_law_404 kc_1 ?_
        refine V_iadd rfl dL_law_405 ?_
        replace h := rx_e h
        obtain ⟨hb125, h⟩ := h
        refine V_xld rfl dL_law_406 hb125 ?_
        replace h := cl_e h
        obtain ⟨w126, M127, hc128, h⟩ := h
        refine V_ii (As := [.int _]) rfl dL_law_407 mf_X12_text ⟨w_1402, w_1403⟩ w_1401 (by decide) s0_136 rfl rfl rfl rfl ⟨rfl, rfl⟩ (t_X12_text hc128) ?_
        refine V_icmp_eq (t := 1087) rfl rfl dL_law_410 (fun hc129 => ?_) (fun hc129 => ?_)
        · replace h := ifp hc129 h
          replace h := lt_e h
          refine V_inc (L' := [_, _, _, _]) rfl dL_law_1087 rfl kc_6 (by decide) rfl ?_
          refine V_goto (t := 18) rfl dL_law_1090 ?_
          exact V_sub (le_s (le_s (le_s (le_s le_0)))) (hr18 _ _ h)
        · replace h := ifn hc129 h
          refine V_iconst (v := 0) rfl dL_law_413 kc_0 ?_
          cases h
          exact V_iret dL_law_414 rfl nz_0 (Nat.le_of_ble_eq_true rfl) (Nat.le_of_ble_eq_true rfl) qI_ok
      replace h := ift h
      rcases h with ⟨hc131, h⟩ | ⟨hc131, h⟩
      · refine V_tabAt (off := 382) (t := 415) hc131 dL_law_33 (by decide +kernel) rfl ?_
        refine V_aload_n rfl dL_law_415 rfl rfl ?_
        refine V_aload_n rfl dL_law_416 rfl rfl ?_
        refine V_iload_n rfl dL_law_417 rfl rfl ?_
        refine V_iconst (v := 1) rfl dL_law_418 kc_1 ?_
        refine V_iadd rfl dL_law_419 ?_
        replace h := rx_e h
        obtain ⟨hb133, h⟩ := h
        refine V_xld rfl dL_law_420 hb133 ?_
        replace h := cl_e h
        obtain ⟨w134, M135, hc136, h⟩ := h
        refine V_ii (As := [.int _]) rfl dL_law_421 mf_X11_fault ⟨w_819, w_820⟩ w_818 (by decide) s0_0 rfl rfl rfl rfl ⟨rfl, rfl⟩ (t_X11_fault hc136) ?_
        refine V_aload_n rfl dL_law_424 rfl rfl ?_
        refine V_aload_n rfl dL_law_425 rfl rfl ?_
        refine V_iload_n rfl dL_law_426 rfl rfl ?_
        refine V_iconst (v := 1) rfl dL_law_427 kc_1 ?_
        refine V_iadd rfl dL_law_428 ?_
        replace h := rx_e h
        obtain ⟨hb138, h⟩ := h
        refine V_xld rfl dL_law_429 hb138 ?_
        replace h := cl_e h
        obtain ⟨w139, M140, hc141, h⟩ := h
        refine V_ii (As := [.int _]) rfl dL_law_430 mf_X12_fault ⟨w_1530, w_1531⟩ w_1529 (by decide) s0_136 rfl rfl rfl rfl ⟨rfl, rfl⟩ (t_X12_fault hc141) ?_
        refine V_icmp_eq (t := 1087) rfl rfl dL_law_433 (fun hc142 => ?_) (fun hc142 => ?_)
        · replace h := ifp hc142 h
          replace h := lt_e h
          refine V_inc (L' := [_, _, _, _]) rfl dL_law_1087 rfl kc_6 (by decide) rfl ?_
          refine V_goto (t := 18) rfl dL_law_1090 ?_
          exact V_sub (le_s (le_s (le_s (le_s le_0)))) (hr18 _ _ h)
        · replace h := ifn hc142 h
          refine V_iconst (v := 0) rfl dL_law_436 kc_0 ?_
          cases h
          exact V_iret dL_law_437 rfl nz_0 (Nat.le_of_ble_eq_true rfl) (Nat.le_of_ble_eq_true rfl) qI_ok
      replace h := ift h
      rcases h with ⟨hc144, h⟩ | ⟨hc144, h⟩
      · refine V_tabAt (off := 405) (t := 438) hc144 dL_law_33 (by decide +kernel) rfl ?_
        refine V_aload_n rfl dL_law_438 rfl rfl ?_
        refine V_aload_n rfl dL_law_439 rfl rfl ?_
        refine V_iload_n rfl dL_law_440 rfl rfl ?_
        refine V_iconst (v := 1) rfl dL_law_441 kc_1 ?_
        refine V_iadd rfl dL_law_442 ?_
        replace h := rx_e h
        obtain ⟨hb146, h⟩ := h
        refine V_xld rfl dL_law_443 hb146 ?_
        replace h := cl_e h
        obtain ⟨w147, M148, hc149, h⟩ := h
        refine V_ii (As := [.int _]) rfl dL_law_444 mf_X11_hours ⟨w_823, w_824⟩ w_822 (by decide) s0_0 rfl rfl rfl rfl ⟨rfl, rfl⟩ (t_X11_hours hc149) ?_
        refine V_aload_n rfl dL_law_447 rfl rfl ?_
        refine V_aload_n rfl dL_law_448 rfl rfl ?_
        refine V_iload_n rfl dL_law_449 rfl rfl ?_
        refine V_iconst (v := 1) rfl dL_law_450 kc_1 ?_
        refine V_iadd rfl dL_law_451 ?_
        replace h := rx_e h
        obtain ⟨hb151, h⟩ := h
        refine V_xld rfl dL_law_452 hb151 ?_
        replace h := cl_e h
        obtain ⟨w152, M153, hc154, h⟩ := h
        refine V_ii (As := [.int _]) rfl dL_law_453 mf_X12_hours ⟨w_1534, w_1535⟩ w_1533 (by decide) s0_136 rfl rfl rfl rfl ⟨rfl, rfl⟩ (t_X12_hours hc154) ?_
        refine V_icmp_eq (t := 1087) rfl rfl dL_law_456 (fun hc155 => ?_) (fun hc155 => ?_)
        · replace h := ifp hc155 h
          replace h := lt_e h
          refine V_inc (L' := [_, _, _, _]) rfl dL_law_1087 rfl kc_6 (by decide) rfl ?_
          refine V_goto (t := 18) rfl dL_law_1090 ?_
          exact V_sub (le_s (le_s (le_s (le_s le_0)))) (hr18 _ _ h)
        · replace h := ifn hc155 h
          refine V_iconst (v := 0) rfl dL_law_459 kc_0 ?_
          cases h
          exact V_iret dL_law_460 rfl nz_0 (Nat.le_of_ble_eq_true rfl) (Nat.le_of_ble_eq_true rfl) qI_ok
      replace h := ift h
      rcases h with ⟨hc157, h⟩ | ⟨hc157, h⟩
      · refine V_tabAt (off := 428) (t := 461) hc157 dL_law_33 (by decide +kernel) rfl ?_
        refine V_aload_n rfl dL_law_461 rfl rfl ?_
        refine V_aload_n rfl dL_law_462 rfl rfl ?_
        refine V_iload_n rfl dL_law_463 rfl rfl ?_
        refine V_iconst (v := 1) rfl dL_law_464 kc_1 ?_
        refine V_iadd rfl dL_law_465 ?_
        replace h := rx_e h
        obtain ⟨hb159, h⟩ := h
        refine V_xld rfl dL_law_466 hb159 ?_
        refine V_aload_n rfl dL_law_467 rfl rfl ?_
        refine V_iload_n rfl dL_law_468 rfl rfl ?_
        refine V_iconst (v := 2) rfl dL_law_469 kc_2 ?_
        refine V_iadd rfl dL_law_470 ?_
        replace h := rx_e h
        obtain ⟨hb161, h⟩ := h
        refine V_xld rfl dL_law_471 hb161 ?_
        replace h := cl_e h
        obtain ⟨w162, M163, hc164, h⟩ := h
        refine V_ii (As := [.int _, .int _]) rfl dL_law_472 mf_X11_move ⟨w_938, w_939⟩ w_937 (by decide) s0_0 rfl rfl rfl rfl ⟨rfl, rfl⟩ (t_X11_move hc164) ?_
        refine V_aload_n rfl dL_law_475 rfl rfl ?_
        refine V_aload_n rfl dL_law_476 rfl rfl ?_
        refine V_iload_n rfl dL_law_477 rfl rfl ?_
        refine V_iconst (v := 1) rfl dL_law_478 kc_1 ?_
        refine V_iadd rfl dL_law_479 ?_
        replace h := rx_e h
        obtain ⟨hb166, h⟩ := h
        refine V_xld rfl dL_law_480 hb166 ?_
        refine V_aload_n rfl dL_law_481 rfl rfl ?_
        refine V_iload_n rfl dL_law_482 rfl rfl ?_
        refine V_iconst (v := 2) rfl dL_law_483 kc_2 ?_
        refine V_iadd rfl dL_law_484 ?_
        replace h := rx_e h
        obtain ⟨hb168, h⟩ := h
        refine V_xld rfl dL_law_485 hb168 ?_
        replace h := cl_e h
        obtain ⟨w169, M170, hc171, h⟩ := h
        refine V_ii (As := [.int _, .int _]) rfl dL_law_486 mf_X12_move ⟨w_1648, w_1649⟩ w_1647 (by decide) s0_136 rfl rfl rfl rfl ⟨rfl, rfl⟩ (t_X12_move hc171) ?_
        refine V_icmp_eq (t := 1087) rfl rfl dL_law_489 (fun hc172 => ?_) (fun hc172 => ?_)
        · replace h := ifp hc172 h
          replace h := lt_e h
          refine V_inc (L' := [_, _, _, _]) rfl dL_law_1087 rfl kc_6 (by decide) rfl ?_
          refine V_goto (t := 18) rfl dL_law_1090 ?_
          exact V_sub (le_s (le_s (le_s (le_s le_0)))) (hr18 _ _ h)
        · replace h := ifn hc172 h
          refine V_iconst (v := 0) rfl dL_law_492 kc_0 ?_
          cases h
          exact V_iret dL_law_493 rfl nz_0 (Nat.le_of_ble_eq_true rfl) (Nat.le_of_ble_eq_true rfl) qI_ok
      replace h := ift h
      rcases h with ⟨hc174, h⟩ | ⟨hc174, h⟩
      · refine V_tabAt (off := 461) (t := 494) hc174 dL_law_33 (by decide +kernel) rfl ?_
        refine V_aload_n rfl dL_law_494 rfl rfl ?_
        refine V_aload_n rfl dL_law_495 rfl rfl ?_
        refine V_iload_n rfl dL_law_496 rfl rfl ?_
        refine V_iconst (v := 1) rfl dL_law_497 kc_1 ?_
        refine V_iadd rfl dL_law_498 ?_
        replace h := rx_e h
        obtain ⟨hb176, h⟩ := h
        refine V_xld rfl dL_law_499 hb176 ?_
        replace h := cl_e h
        obtain ⟨w177, M178, hc179, h⟩ := h
        refine V_ii (As := [.int _]) rfl dL_law_500 mf_X11_carry ⟨w_942, w_943⟩ w_941 (by decide) s0_0 rfl rfl rfl rfl ⟨rfl, rfl⟩ (t_X11_carry hc179) ?_
        refine V_aload_n rfl dL_law_503 rfl rfl ?_
        refine V_aload_n rfl dL_law_504 rfl rfl ?_
        refine V_iload_n rfl dL_law_505 rfl rfl ?_
        refine V_iconst (v := 1) rfl dL_law_506 kc_1 ?_
        refine V_iadd rfl dL_law_507 ?_
        replace h := rx_e h
        obtain ⟨hb181, h⟩ := h
        refine V_xld rfl dL_law_508 hb181 ?_
        replace h := cl_e h
        obtain ⟨w182, M183, hc184, h⟩ := h
        refine V_ii (As := [.int _]) rfl dL_law_509 mf_X12_carry ⟨w_1652, w_1653⟩ w_1651 (by decide) s0_136 rfl rfl rfl rfl ⟨rfl, rfl⟩ (t_X12_carry hc184) ?_
        refine V_icmp_eq (t := 1087) rfl rfl dL_law_512 (fun hc185 => ?_) (fun hc185 => ?_)
        · replace h := ifp hc185 h
          replace h := lt_e h
          refine V_inc (L' := [_, _, _, _]) rfl dL_law_1087 rfl kc_6 (by decide) rfl ?_
          refine V_goto (t := 18) rfl dL_law_1090 ?_
          exact V_sub (le_s (le_s (le_s (le_s le_0)))) (hr18 _ _ h)
        · replace h := ifn hc185 h
          refine V_iconst (v := 0) rfl dL_law_515 kc_0 ?_
          cases h
          exact V_iret dL_law_516 rfl nz_0 (Nat.le_of_ble_eq_true rfl) (Nat.le_of_ble_eq_true rfl) qI_ok
      replace h := ift h
      rcases h with ⟨hc187, h⟩ | ⟨hc187, h⟩
      · refine V_tabAt (off := 484) (t := 517) hc187 dL_law_33 (by decide +kernel) rfl ?_
        refine V_aload_n rfl dL_law_517 rfl rfl ?_
        refine V_aload_n rfl dL_law_518 rfl rfl ?_
        refine V_iload_n rfl dL_law_519 rfl rfl ?_
        refine V_iconst (v := 1) rfl dL_law_520 kc_1 ?_
        refine V_iadd rfl dL_law_521 ?_
        replace h := rx_e h
        obtain ⟨hb189, h⟩ := h
        refine V_xld rfl dL_law_522 hb189 ?_
        refine V_aload_n rfl dL_law_523 rfl rfl ?_
        refine V_iload_n rfl dL_law_524 rfl rfl ?_
        refine V_iconst (v := 2) rfl dL_law_525 kc_2 ?_
        refine V_iadd rfl dL_law_526 ?_
        replace h := rx_e h
        obtain ⟨hb191, h⟩ := h
        refine V_xld rfl dL_law_527 hb191 ?_
        replace h := cl_e h
        obtain ⟨w192, M193, hc194, h⟩ := h
        refine V_ii (As := [.int _, .int _]) rfl dL_law_528 mf_X11_of ⟨w_972, w_973⟩ w_971 (by decide) s0_0 rfl rfl rfl rfl ⟨rfl, rfl⟩ (t_X11_of hc194) ?_
        refine V_aload_n rfl dL_law_531 rfl rfl ?_
        refine V_aload_n rfl dL_law_532 rfl rfl ?_
        refine V_iload_n rfl dL_law_533 rfl rfl ?_
        refine V_iconst (v := 1) rfl dL_law_534 kc_1 ?_
        refine V_iadd rfl dL_law_535 ?_
        replace h := rx_e h
        obtain ⟨hb196, h⟩ := h
        refine V_xld rfl dL_law_536 hb196 ?_
        refine V_aload_n rfl dL_law_537 rfl rfl ?_
        refine V_iload_n rfl dL_law_538 rfl rfl ?_
        refine V_iconst (v := 2) rfl dL_law_539 kc_2 ?_
        refine V_iadd rfl dL_law_540 ?_
        replace h := rx_e h
        obtain ⟨hb198, h⟩ := h
        refine V_xld rfl dL_law_541 hb198 ?_
        replace h := cl_e h
        obtain ⟨w199, M200, hc201, h⟩ := h
        refine V_ii (As := [.int _, .int _]) rfl dL_law_542 mf_X12_of ⟨w_1656, w_1657⟩ w_1655 (by decide) s0_136 rfl rfl rfl rfl ⟨rfl, rfl⟩ (t_X12_of hc201) ?_
        refine V_icmp_eq (t := 1087) rfl rfl dL_law_545 (fun hc202 => ?_) (fun hc202 => ?_)
        · replace h := ifp hc202 h
          replace h := lt_e h
          refine V_inc (L' := [_, _, _, _]) rfl dL_law_1087 rfl kc_6 (by decide) rfl ?_
          refine V_goto (t := 18) rfl dL_law_1090 ?_
          exact V_sub (le_s (le_s (le_s (le_s le_0)))) (hr18 _ _ h)
        · replace h := ifn hc202 h
          refine V_iconst (v := 0) rfl dL_law_548 kc_0 ?_
          cases h
          exact V_iret dL_law_549 rfl nz_0 (Nat.le_of_ble_eq_true rfl) (Nat.le_of_ble_eq_true rfl) qI_ok
      replace h := ift h
      rcases h with ⟨hc204, h⟩ | ⟨hc204, h⟩
      · refine V_tabAt (off := 517) (t := 550) hc204 dL_law_33 (by decide +kernel) rfl ?_
        refine V_aload_n rfl dL_law_550 rfl rfl ?_
        refine V_aload_n rfl dL_law_551 rfl rfl ?_
        refine V_iload_n rfl dL_law_552 rfl rfl ?_
        refine V_iconst (v := 1) rfl dL_law_553 kc_1 ?_
        refine V_iadd rfl dL_law_554 ?_
        replace h := rx_e h
        obtain ⟨hb206, h⟩ := h
        refine V_xld rfl dL_law_555 hb206 ?_
        refine V_aload_n rfl dL_law_556 rfl rfl ?_
        refine V_iload_n rfl dL_law_557 rfl rfl ?_
        refine V_iconst (v := 2) rfl dL_law_558 kc_2 ?_
        refine V_iadd rfl dL_law_559 ?_
        replace h := rx_e h
        obtain ⟨hb208, h⟩ := h
        refine V_xld rfl dL_law_560 hb208 ?_
        replace h := cl_e h
        obtain ⟨w209, M210, hc211, h⟩ := h
        refine V_ii (As := [.int _, .int _]) rfl dL_law_561 mf_X11_stone ⟨w_980, w_981⟩ w_979 (by decide) s0_0 rfl rfl rfl rfl ⟨rfl, rfl⟩ (t_X11_stone hc211) ?_
        refine V_aload_n rfl dL_law_564 rfl rfl ?_
        refine V_aload_n rfl dL_law_565 rfl rfl ?_
        refine V_iload_n rfl dL_law_566 rfl rfl ?_
        refine V_iconst (v := 1) rfl dL_law_567 kc_1 ?_
        refine V_iadd rfl dL_law_568 ?_
        replace h := rx_e h
        obtain ⟨hb213, h⟩ := h
        refine V_xld rfl dL_law_569 hb213 ?_
        refine V_aload_n rfl dL_law_570 rfl rfl ?_
        refine V_iload_n rfl dL_law_571 rfl rfl ?_
        refine V_iconst (v := 2) rfl dL_law_572 kc_2 ?_
        refine V_iadd rfl dL_law_573 ?_
        replace h := rx_e h
        obtain ⟨hb215, h⟩ := h
        refine V_xld rfl dL_law_574 hb215 ?_
        replace h := cl_e h
        obtain ⟨w216, M217, hc218, h⟩ := h
        refine V_ii (As := [.int _, .int _]) rfl dL_law_575 mf_X12_stone ⟨w_1664, w_1665⟩ w_1663 (by decide) s0_136 rfl rfl rfl rfl ⟨rfl, rfl⟩ (t_X12_stone hc218) ?_
        refine V_icmp_eq (t := 1087) rfl rfl dL_law_578 (fun hc219 => ?_) (fun hc219 => ?_)
        · replace h := ifp hc219 h
          replace h := lt_e h
          refine V_inc (L' := [_, _, _, _]) rfl dL_law_1087 rfl kc_6 (by decide) rfl ?_
          refine V_goto (t := 18) rfl dL_law_1090 ?_
          exact V_sub (le_s (le_s (le_s (le_s le_0)))) (hr18 _ _ h)
        · replace h := ifn hc219 h
          refine V_iconst (v := 0) rfl dL_law_581 kc_0 ?_
          cases h
          exact V_iret dL_law_582 rfl nz_0 (Nat.le_of_ble_eq_true rfl) (Nat.le_of_ble_eq_true rfl) qI_ok
      replace h := ift h
      rcases h with ⟨hc221, h⟩ | ⟨hc221, h⟩
      · refine V_tabAt (off := 550) (t := 583) hc221 dL_law_33 (by decide +kernel) rfl ?_
        refine V_aload_n rfl dL_law_583 rfl rfl ?_
        refine V_aload_n rfl dL_law_584 rfl rfl ?_
        refine V_iload_n rfl dL_law_585 rfl rfl ?_
        refine V_iconst (v := 1) rfl dL_law_586 kc_1 ?_
        refine V_iadd rfl dL_law_587 ?_
        replace h := rx_e h
        obtain ⟨hb223, h⟩ := h
        refine V_xld rfl dL_law_588 hb223 ?_
        refine V_aload_n rfl dL_law_589 rfl rfl ?_
        refine V_iload_n rfl dL_law_590 rfl rfl ?_
        refine V_iconst (v := 2) rfl dL_law_591 kc_2 ?_
        refine V_iadd rfl dL_law_592 ?_
        replace h := rx_e h
        obtain ⟨hb225, h⟩ := h
        refine V_xld rfl dL_law_593 hb225 ?_
        replace h := cl_e h
        obtain ⟨w226, M227, hc228, h⟩ := h
        refine V_ii (As := [.int _, .int _]) rfl dL_law_594 mf_X11_roadOf ⟨w_984, w_985⟩ w_983 (by decide) s0_0 rfl rfl rfl rfl ⟨rfl, rfl⟩ (t_X11_roadOf hc228) ?_
        refine V_aload_n rfl dL_law_597 rfl rfl ?_
        refine V_aload_n rfl dL_law_598 rfl rfl ?_
        refine V_iload_n rfl dL_law_599 rfl rfl ?_
        refine V_iconst (v := 1) rfl dL_law_600 kc_1 ?_
        refine V_iadd rfl dL_law_601 ?_
        replace h := rx_e h
        obtain ⟨hb230, h⟩ := h
        refine V_xld rfl dL_law_602 hb230 ?_
        refine V_aload_n rfl dL_law_603 rfl rfl ?_
        refine V_iload_n rfl dL_law_604 rfl rfl ?_
        refine V_iconst (v := 2) rfl dL_law_605 kc_2 ?_
        refine V_iadd rfl dL_law_606 ?_
        replace h := rx_e h
        obtain ⟨hb232, h⟩ := h
        refine V_xld rfl dL_law_607 hb232 ?_
        replace h := cl_e h
        obtain ⟨w233, M234, hc235, h⟩ := h
        refine V_ii (As := [.int _, .int _]) rfl dL_law_608 mf_X12_roadOf ⟨w_1386, w_1387⟩ w_1385 (by decide) s0_136 rfl rfl rfl rfl ⟨rfl, rfl⟩ (t_X12_roadOf hc235) ?_
        refine V_icmp_eq (t := 1087) rfl rfl dL_law_611 (fun hc236 => ?_) (fun hc236 => ?_)
        · replace h := ifp hc236 h
          replace h := lt_e h
          refine V_inc (L' := [_, _, _, _]) rfl dL_law_1087 rfl kc_6 (by decide) rfl ?_
          refine V_goto (t := 18) rfl dL_law_1090 ?_
          exact V_sub (le_s (le_s (le_s (le_s le_0)))) (hr18 _ _ h)
        · replace h := ifn hc236 h
          refine V_iconst (v := 0) rfl dL_law_614 kc_0 ?_
          cases h
          exact V_iret dL_law_615 rfl nz_0 (Nat.le_of_ble_eq_true rfl) (Nat.le_of_ble_eq_true rfl) qI_ok
      replace h := ift h
      rcases h with ⟨hc238, h⟩ | ⟨hc238, h⟩
      · refine V_tabAt (off := 583) (t := 616) hc238 dL_law_33 (by decide +kernel) rfl ?_
        refine V_aload_n rfl dL_law_616 rfl rfl ?_
        refine V_aload_n rfl dL_law_617 rfl rfl ?_
        refine V_iload_n rfl dL_law_618 rfl rfl ?_
        refine V_iconst (v := 1) rfl dL_law_619 kc_1 ?_
        refine V_iadd rfl dL_law_620 ?_
        replace h := rx_e h
        obtain ⟨hb240, h⟩ := h
        refine V_xld rfl dL_law_621 hb240 ?_
        refine V_aload_n rfl dL_law_622 rfl rfl ?_
        refine V_iload_n rfl dL_law_623 rfl rfl ?_
        refine V_iconst (v := 2) rfl dL_law_624 kc_2 ?_
        refine V_iadd rfl dL_law_625 ?_
        replace h := rx_e h
        obtain ⟨hb242, h⟩ := h
        refine V_xld rfl dL_law_626 hb242 ?_
        replace h := cl_e h
        obtain ⟨w243, M244, hc245, h⟩ := h
        refine V_ii (As := [.int _, .int _]) rfl dL_law_627 mf_X11_book ⟨w_988, w_989⟩ w_987 (by decide) s0_0 rfl rfl rfl rfl ⟨rfl, rfl⟩ (t_X11_book hc245) ?_
        refine V_aload_n rfl dL_law_630 rfl rfl ?_
        refine V_aload_n rfl dL_law_631 rfl rfl ?_
        refine V_iload_n rfl dL_law_632 rfl rfl ?_
        refine V_iconst (v := 1) rfl dL_law_633 kc_1 ?_
        refine V_iadd rfl dL_law_634 ?_
        replace h := rx_e h
        obtain ⟨hb247, h⟩ := h
        refine V_xld rfl dL_law_635 hb247 ?_
        refine V_aload_n rfl dL_law_636 rfl rfl ?_
        refine V_iload_n rfl dL_law_637 rfl rfl ?_
        refine V_iconst (v := 2) rfl dL_law_638 kc_2 ?_
        refine V_iadd rfl dL_law_639 ?_
        replace h := rx_e h
        obtain ⟨hb249, h⟩ := h
        refine V_xld rfl dL_law_640 hb249 ?_
        replace h := cl_e h
        obtain ⟨w250, M251, hc252, h⟩ := h
        refine V_ii (As := [.int _, .int _]) rfl dL_law_641 mf_X12_book ⟨w_1668, w_1669⟩ w_1667 (by decide) s0_136 rfl rfl rfl rfl ⟨rfl, rfl⟩ (t_X12_book hc252) ?_
        refine V_icmp_eq (t := 1087) rfl rfl dL_law_644 (fun hc253 => ?_) (fun hc253 => ?_)
        · replace h := ifp hc253 h
          replace h := lt_e h
          refine V_inc (L' := [_, _, _, _]) rfl dL_law_1087 rfl kc_6 (by decide) rfl ?_
          refine V_goto (t := 18) rfl dL_law_1090 ?_
          exact V_sub (le_s (le_s (le_s (le_s le_0)))) (hr18 _ _ h)
        · replace h := ifn hc253 h
          refine V_iconst (v := 0) rfl dL_law_647 kc_0 ?_
          cases h
          exact V_iret dL_law_648 rfl nz_0 (Nat.le_of_ble_eq_true rfl) (Nat.le_of_ble_eq_true rfl) qI_ok
      replace h := ift h
      rcases h with ⟨hc255, h⟩ | ⟨hc255, h⟩
      · refine V_tabAt (off := 616) (t := 649) hc255 dL_law_33 (by decide +kernel) rfl ?_
        refine V_aload_n rfl dL_law_649 rfl rfl ?_
        refine V_aload_n rfl dL_law_650 rfl rfl ?_
        refine V_iload_n rfl dL_law_651 rfl rfl ?_
        refine V_iconst (v := 1) rfl dL_law_652 kc_1 ?_
        refine V_iadd rfl dL_law_653 ?_
        replace h := rx_e h
        obtain ⟨hb257, h⟩ := h
        refine V_xld rfl dL_law_654 hb257 ?_
        refine V_aload_n rfl dL_law_655 rfl rfl ?_
        refine V_iload_n rfl dL_law_656 rfl rfl ?_
        refine V_iconst (v := 2) rfl dL_law_657 kc_2 ?_
        refine V_iadd rfl dL_law_658 ?_
        replace h := rx_e h
        obtain ⟨hb259, h⟩ := h
        refine V_xld rfl dL_law_659 hb259 ?_
        replace h := cl_e h
        obtain ⟨w260, M261, hc262, h⟩ := h
        refine V_ii (As := [.int _, .int _]) rfl dL_law_660 mf_X11_goes ⟨w_1004, w_1005⟩ w_1003 (by decide) s0_0 rfl rfl rfl rfl ⟨rfl, rfl⟩ (t_X11_goes hc262) ?_
        refine V_aload_n rfl dL_law_663 rfl rfl ?_
        refine V_aload_n rfl dL_law_664 rfl rfl ?_
        refine V_iload_n rfl dL_law_665 rfl rfl ?_
        refine V_iconst (v := 1) rfl dL_law_666 kc_1 ?_
        refine V_iadd rfl dL_law_667 ?_
        replace h := rx_e h
        obtain ⟨hb264, h⟩ := h
        refine V_xld rfl dL_law_668 hb264 ?_
        refine V_aload_n rfl dL_law_669 rfl rfl ?_
        refine V_iload_n rfl dL_law_670 rfl rfl ?_
        refine V_iconst (v := 2) rfl dL_law_671 kc_2 ?_
        refine V_iadd rfl dL_law_672 ?_
        replace h := rx_e h
        obtain ⟨hb266, h⟩ := h
        refine V_xld rfl dL_law_673 hb266 ?_
        replace h := cl_e h
        obtain ⟨w267, M268, hc269, h⟩ := h
        refine V_ii (As := [.int _, .int _]) rfl dL_law_674 mf_X12_goes ⟨w_1672, w_1673⟩ w_1671 (by decide) s0_136 rfl rfl rfl rfl ⟨rfl, rfl⟩ (t_X12_goes hc269) ?_
        refine V_icmp_eq (t := 1087) rfl rfl dL_law_677 (fun hc270 => ?_) (fun hc270 => ?_)
        · replace h := ifp hc270 h
          replace h := lt_e h
          refine V_inc (L' := [_, _, _, _]) rfl dL_law_1087 rfl kc_6 (by decide) rfl ?_
          refine V_goto (t := 18) rfl dL_law_1090 ?_
          exact V_sub (le_s (le_s (le_s (le_s le_0)))) (hr18 _ _ h)
        · replace h := ifn hc270 h
          refine V_iconst (v := 0) rfl dL_law_680 kc_0 ?_
          cases h
          exact V_iret dL_law_681 rfl nz_0 (Nat.le_of_ble_eq_true rfl) (Nat.le_of_ble_eq_true rfl) qI_ok
      replace h := ift h
      rcases h with ⟨hc272, h⟩ | ⟨hc272, h⟩
      · refine V_tabAt (off := 649) (t := 682) hc272 dL_law_33 (by decide +kernel) rfl ?_
        refine V_aload_n rfl dL_law_682 rfl rfl ?_
        refine V_aload_n rfl dL_law_683 rfl rfl ?_
        refine V_iload_n rfl dL_law_684 rfl rfl ?_
        refine V_iconst (v := 1) rfl dL_law_685 kc_1 ?_
        refine V_iadd rfl dL_law_686 ?_
        replace h := rx_e h
        obtain ⟨hb274, h⟩ := h
        refine V_xld rfl dL_law_687 hb274 ?_
        replace h := cl_e h
        obtain ⟨w275, M276, hc277, h⟩ := h
        refine V_ii (As := [.int _]) rfl dL_law_688 mf_X11_cover ⟨w_1013, w_1014⟩ w_1012 (by decide) s0_0 rfl rfl rfl rfl ⟨rfl, rfl⟩ (t_X11_cover hc277) ?_
        refine V_aload_n rfl dL_law_691 rfl rfl ?_
        refine V_aload_n rfl dL_law_692 rfl rfl ?_
        refine V_iload_n rfl dL_law_693 rfl rfl ?_
        refine V_iconst (v := 1) rfl dL_law_694 kc_1 ?_
        refine V_iadd rfl dL_law_695 ?_
        replace h := rx_e h
        obtain ⟨hb279, h⟩ := h
        refine V_xld rfl dL_law_696 hb279 ?_
        replace h := cl_e h
        obtain ⟨w280, M281, hc282, h⟩ := h
        refine V_ii (As := [.int _]) rfl dL_law_697 mf_X12_cover ⟨w_1688, w_1689⟩ w_1687 (by decide) s0_136 rfl rfl rfl rfl ⟨rfl, rfl⟩ (t_X12_cover hc282) ?_
        refine V_icmp_eq (t := 1087) rfl rfl dL_law_700 (fun hc283 => ?_) (fun hc283 => ?_)
        · replace h := ifp hc283 h
          replace h := lt_e h
          refine V_inc (L' := [_, _, _, _]) rfl dL_law_1087 rfl kc_6 (by decide) rfl ?_
          refine V_goto (t := 18) rfl dL_law_1090 ?_
          exact V_sub (le_s (le_s (le_s (le_s le_0)))) (hr18 _ _ h)
        · replace h := ifn hc283 h
          refine V_iconst (v := 0) rfl dL_law_703 kc_0 ?_
          cases h
          exact V_iret dL_law_704 rfl nz_0 (Nat.le_of_ble_eq_true rfl) (Nat.le_of_ble_eq_true rfl) qI_ok
      replace h := ift h
      rcases h with ⟨hc285, h⟩ | ⟨hc285, h⟩
      · refine V_tabAt (off := 672) (t := 705) hc285 dL_law_33 (by decide +kernel) rfl ?_
        refine V_aload_n rfl dL_law_705 rfl rfl ?_
        refine V_aload_n rfl dL_law_706 rfl rfl ?_
        refine V_iload_n rfl dL_law_707 rfl rfl ?_
        refine V_iconst (v := 1) rfl dL_law_708 kc_1 ?_
        refine V_iadd rfl dL_law_709 ?_
        replace h := rx_e h
        obtain ⟨hb287, h⟩ := h
        refine V_xld rfl dL_law_710 hb287 ?_
        replace h := cl_e h
        obtain ⟨w288, M289, hc290, h⟩ := h
        refine V_ii (As := [.int _]) rfl dL_law_711 mf_X11_watches ⟨w_1038, w_1039⟩ w_1037 (by decide) s0_0 rfl rfl rfl rfl ⟨rfl, rfl⟩ (t_X11_watches hc290) ?_
        refine V_aload_n rfl dL_law_714 rfl rfl ?_
        refine V_aload_n rfl dL_law_715 rfl rfl ?_
        refine V_iload_n rfl dL_law_716 rfl rfl ?_
        refine V_iconst (v := 1) rfl dL_law_717 kc_1 ?_
        refine V_iadd rfl dL_law_718 ?_
        replace h := rx_e h
        obtain ⟨hb292, h⟩ := h
        refine V_xld rfl dL_law_719 hb292 ?_
        replace h := cl_e h
        obtain ⟨w293, M294, hc295, h⟩ := h
        refine V_ii (As := [.int _]) rfl dL_law_720 mf_X12_watches ⟨w_1700, w_1701⟩ w_1699 (by decide) s0_136 rfl rfl rfl rfl ⟨rfl, rfl⟩ (t_X12_watches hc295) ?_
        refine V_icmp_eq (t := 1087) rfl rfl dL_law_723 (fun hc296 => ?_) (fun hc296 => ?_)
        · replace h := ifp hc296 h
          replace h := lt_e h
          refine V_inc (L' := [_, _, _, _]) rfl dL_law_1087 rfl kc_6 (by decide) rfl ?_
          refine V_goto (t := 18) rfl dL_law_1090 ?_
          exact V_sub (le_s (le_s (le_s (le_s le_0)))) (hr18 _ _ h)
        · replace h := ifn hc296 h
          refine V_iconst (v := 0) rfl dL_law_726 kc_0 ?_
          cases h
          exact V_iret dL_law_727 rfl nz_0 (Nat.le_of_ble_eq_true rfl) (Nat.le_of_ble_eq_true rfl) qI_ok
      replace h := ift h
      rcases h with ⟨hc298, h⟩ | ⟨hc298, h⟩
      · refine V_tabAt (off := 695) (t := 728) hc298 dL_law_33 (by decide +kernel) rfl ?_
        refine V_aload_n rfl dL_law_728 rfl rfl ?_
        refine V_aload_n rfl dL_law_729 rfl rfl ?_
        refine V_iload_n rfl dL_law_730 rfl rfl ?_
        refine V_iconst (v := 1) rfl dL_law_731 kc_1 ?_
        refine V_iadd rfl dL_law_732 ?_
        replace h := rx_e h
        obtain ⟨hb300, h⟩ := h
        refine V_xld rfl dL_law_733 hb300 ?_
        refine V_aload_n rfl dL_law_734 rfl rfl ?_
        refine V_iload_n rfl dL_law_735 rfl rfl ?_
        refine V_iconst (v := 2) rfl dL_law_736 kc_2 ?_
        refine V_iadd rfl dL_law_737 ?_
        replace h := rx_e h
        obtain ⟨hb302, h⟩ := h
        refine V_xld rfl dL_law_738 hb302 ?_
        replace h := cl_e h
        obtain ⟨w303, M304, hc305, h⟩ := h
        refine V_ii (As := [.int _, .int _]) rfl dL_law_739 mf_X11_tour ⟨w_1095, w_1096⟩ w_1094 (by decide) s0_0 rfl rfl rfl rfl ⟨rfl, rfl⟩ (t_X11_tour hc305) ?_
        refine V_aload_n rfl dL_law_742 rfl rfl ?_
        refine V_aload_n rfl dL_law_743 rfl rfl ?_
        refine V_iload_n rfl dL_law_744 rfl rfl ?_
        refine V_iconst (v := 1) rfl dL_law_745 kc_1 ?_
        refine V_iadd rfl dL_law_746 ?_
        replace h := rx_e h
        obtain ⟨hb307, h⟩ := h
        refine V_xld rfl dL_law_747 hb307 ?_
        refine V_aload_n rfl dL_law_748 rfl rfl ?_
        refine V_iload_n rfl dL_law_749 rfl rfl ?_
        refine V_iconst (v := 2) rfl dL_law_750 kc_2 ?_
        refine V_iadd rfl dL_law_751 ?_
        replace h := rx_e h
        obtain ⟨hb309, h⟩ := h
        refine V_xld rfl dL_law_752 hb309 ?_
        replace h := cl_e h
        obtain ⟨w310, M311, hc312, h⟩ := h
        refine V_ii (As := [.int _, .int _]) rfl dL_law_753 mf_X12_tour ⟨w_1733, w_1734⟩ w_1732 (by decide) s0_136 rfl rfl rfl rfl ⟨rfl, rfl⟩ (t_X12_tour hc312) ?_
        refine V_icmp_eq (t := 1087) rfl rfl dL_law_756 (fun hc313 => ?_) (fun hc313 => ?_)
        · replace h := ifp hc313 h
          replace h := lt_e h
          refine V_inc (L' := [_, _, _, _]) rfl dL_law_1087 rfl kc_6 (by decide) rfl ?_
          refine V_goto (t := 18) rfl dL_law_1090 ?_
          exact V_sub (le_s (le_s (le_s (le_s le_0)))) (hr18 _ _ h)
        · replace h := ifn hc313 h
          refine V_iconst (v := 0) rfl dL_law_759 kc_0 ?_
          cases h
          exact V_iret dL_law_760 rfl nz_0 (Nat.le_of_ble_eq_true rfl) (Nat.le_of_ble_eq_true rfl) qI_ok
      replace h := ift h
      rcases h with ⟨hc315, h⟩ | ⟨hc315, h⟩
      · refine V_tabAt (off := 728) (t := 761) hc315 dL_law_33 (by decide +kernel) rfl ?_
        refine V_aload_n rfl dL_law_761 rfl rfl ?_
        refine V_aload_n rfl dL_law_762 rfl rfl ?_
        refine V_iload_n rfl dL_law_763 rfl rfl ?_
        refine V_iconst (v := 1) rfl dL_law_764 kc_1 ?_
        refine V_iadd rfl dL_law_765 ?_
        replace h := rx_e h
        obtain ⟨hb317, h⟩ := h
        refine V_xld rfl dL_law_766 hb317 ?_
        refine V_aload_n rfl dL_law_767 rfl rfl ?_
        refine V_iload_n rfl dL_law_768 rfl rfl ?_
        refine V_iconst (v := 2) rfl dL_law_769 kc_2 ?_
        refine V_iadd rfl dL_law_770 ?_
        replace h := rx_e h
        obtain ⟨hb319, h⟩ := h
        refine V_xld rfl dL_law_771 hb319 ?_
        refine V_aload_n rfl dL_law_772 rfl rfl ?_
        refine V_iload_n rfl dL_law_773 rfl rfl ?_
        refine V_iconst (v := 3) rfl dL_law_774 kc_3 ?_
        refine V_iadd rfl dL_law_775 ?_
        replace h := rx_e h
        obtain ⟨hb321, h⟩ := h
        refine V_xld rfl dL_law_776 hb321 ?_
        replace h := cl_e h
        obtain ⟨w322, M323, hc324, h⟩ := h
        refine V_ii (As := [.int _, .int _, .int _]) rfl dL_law_777 mf_X11_meets ⟨w_1120, w_1121⟩ w_1119 (by decide) s0_0 rfl rfl rfl rfl ⟨rfl, rfl⟩ (t_X11_meets hc324) ?_
        refine V_aload_n rfl dL_law_780 rfl rfl ?_
        refine V_aload_n rfl dL_law_781 rfl rfl ?_
        refine V_iload_n rfl dL_law_782 rfl rfl ?_
        refine V_iconst (v := 1) rfl dL_law_783 kc_1 ?_
        refine V_iadd rfl dL_law_784 ?_
        replace h := rx_e h
        obtain ⟨hb326, h⟩ := h
        refine V_xld rfl dL_law_785 hb326 ?_
        refine V_aload_n rfl dL_law_786 rfl rfl ?_
        refine V_iload_n rfl dL_law_787 rfl rfl ?_
        refine V_iconst (v := 2) rfl dL_law_788 kc_2 ?_
        refine V_iadd rfl dL_law_789 ?_
        replace h := rx_e h
        obtain ⟨hb328, h⟩ := h
        refine V_xld rfl dL_law_790 hb328 ?_
        refine V_aload_n rfl dL_law_791 rfl rfl ?_
        refine V_iload_n rfl dL_law_792 rfl rfl ?_
        refine V_iconst (v := 3) rfl dL_law_793 kc_3 ?_
        refine V_iadd rfl dL_law_794 ?_
        replace h := rx_e h
        obtain ⟨hb330, h⟩ := h
        refine V_xld rfl dL_law_795 hb330 ?_
        replace h := cl_e h
        obtain ⟨w331, M332, hc333, h⟩ := h
        refine V_ii (As := [.int _, .int _, .int _]) rfl dL_law_796 mf_X12_meets ⟨w_1753, w_1754⟩ w_1752 (by decide) s0_136 rfl rfl rfl rfl ⟨rfl, rfl⟩ (t_X12_meets hc333) ?_
        refine V_icmp_eq (t := 1087) rfl rfl dL_law_799 (fun hc334 => ?_) (fun hc334 => ?_)
        · replace h := ifp hc334 h
          replace h := lt_e h
          refine V_inc (L' := [_, _, _, _]) rfl dL_law_1087 rfl kc_6 (by decide) rfl ?_
          refine V_goto (t := 18) rfl dL_law_1090 ?_
          exact V_sub (le_s (le_s (le_s (le_s le_0)))) (hr18 _ _ h)
        · replace h := ifn hc334 h
          refine V_iconst (v := 0) rfl dL_law_802 kc_0 ?_
          cases h
          exact V_iret dL_law_803 rfl nz_0 (Nat.le_of_ble_eq_true rfl) (Nat.le_of_ble_eq_true rfl) qI_ok
      replace h := ift h
      rcases h with ⟨hc336, h⟩ | ⟨hc336, h⟩
      · refine V_tabAt (off := 771) (t := 804) hc336 dL_law_33 (by decide +kernel) rfl ?_
        refine V_aload_n rfl dL_law_804 rfl rfl ?_
        refine V_aload_n rfl dL_law_805 rfl rfl ?_
        refine V_iload_n rfl dL_law_806 rfl rfl ?_
        refine V_iconst (v := 1) rfl dL_law_807 kc_1 ?_
        refine V_iadd rfl dL_law_808 ?_
        replace h := rx_e h
        obtain ⟨hb338, h⟩ := h
        refine V_xld rfl dL_law_809 hb338 ?_
        refine V_aload_n rfl dL_law_810 rfl rfl ?_
        refine V_iload_n rfl dL_law_811 rfl rfl ?_
        refine V_iconst (v := 2) rfl dL_law_812 kc_2 ?_
        refine V_iadd rfl dL_law_813 ?_
        replace h := rx_e h
        obtain ⟨hb340, h⟩ := h
        refine V_xld rfl dL_law_814 hb340 ?_
        refine V_aload_n rfl dL_law_815 rfl rfl ?_
        refine V_iload_n rfl dL_law_816 rfl rfl ?_
        refine V_iconst (v := 3) rfl dL_law_817 kc_3 ?_
        refine V_iadd rfl dL_law_818 ?_
        replace h := rx_e h
        obtain ⟨hb342, h⟩ := h
        refine V_xld rfl dL_law_819 hb342 ?_
        replace h := cl_e h
        obtain ⟨w343, M344, hc345, h⟩ := h
        refine V_ii (As := [.int _, .int _, .int _]) rfl dL_law_820 mf_X11_sees ⟨w_1128, w_1129⟩ w_1127 (by decide) s0_0 rfl rfl rfl rfl ⟨rfl, rfl⟩ (t_X11_sees hc345) ?_
        refine V_aload_n rfl dL_law_823 rfl rfl ?_
        refine V_aload_n rfl dL_law_824 rfl rfl ?_
        refine V_iload_n rfl dL_law_825 rfl rfl ?_
        refine V_iconst (v := 1) rfl dL_law_826 kc_1 ?_
        refine V_iadd rfl dL_law_827 ?_
        replace h := rx_e h
        obtain ⟨hb347, h⟩ := h
        refine V_xld rfl dL_law_828 hb347 ?_
        refine V_aload_n rfl dL_law_829 rfl rfl ?_
        refine V_iload_n rfl dL_law_830 rfl rfl ?_
        refine V_iconst (v := 2) rfl dL_law_831 kc_2 ?_
        refine V_iadd rfl dL_law_832 ?_
        replace h := rx_e h
        obtain ⟨hb349, h⟩ := h
        refine V_xld rfl dL_law_833 hb349 ?_
        refine V_aload_n rfl dL_law_834 rfl rfl ?_
        refine V_iload_n rfl dL_law_835 rfl rfl ?_
        refine V_iconst (v := 3) rfl dL_law_836 kc_3 ?_
        refine V_iadd rfl dL_law_837 ?_
        replace h := rx_e h
        obtain ⟨hb351, h⟩ := h
        refine V_xld rfl dL_law_838 hb351 ?_
        replace h := cl_e h
        obtain ⟨w352, M353, hc354, h⟩ := h
        refine V_ii (As := [.int _, .int _, .int _]) rfl dL_law_839 mf_X12_sees ⟨w_1769, w_1770⟩ w_1768 (by decide) s0_136 rfl rfl rfl rfl ⟨rfl, rfl⟩ (t_X12_sees hc354) ?_
        refine V_icmp_eq (t := 1087) rfl rfl dL_law_842 (fun hc355 => ?_) (fun hc355 => ?_)
        · replace h := ifp hc355 h
          replace h := lt_e h
          refine V_inc (L' := [_, _, _, _]) rfl dL_law_1087 rfl kc_6 (by decide) rfl ?_
          refine V_goto (t := 18) rfl dL_law_1090 ?_
          exact V_sub (le_s (le_s (le_s (le_s le_0)))) (hr18 _ _ h)
        · replace h := ifn hc355 h
          refine V_iconst (v := 0) rfl dL_law_845 kc_0 ?_
          cases h
          exact V_iret dL_law_846 rfl nz_0 (Nat.le_of_ble_eq_true rfl) (Nat.le_of_ble_eq_true rfl) qI_ok
      replace h := ift h
      rcases h with ⟨hc357, h⟩ | ⟨hc357, h⟩
      · refine V_tabAt (off := 814) (t := 847) hc357 dL_law_33 (by decide +kernel) rfl ?_
        refine V_aload_n rfl dL_law_847 rfl rfl ?_
        refine V_aload_n rfl dL_law_848 rfl rfl ?_
        refine V_iload_n rfl dL_law_849 rfl rfl ?_
        refine V_iconst (v := 1) rfl dL_law_850 kc_1 ?_
        refine V_iadd rfl dL_law_851 ?_
        replace h := rx_e h
        obtain ⟨hb359, h⟩ := h
        refine V_xld rfl dL_law_852 hb359 ?_
        refine V_aload_n rfl dL_law_853 rfl rfl ?_
        refine V_iload_n rfl dL_law_854 rfl rfl ?_
        refine V_iconst (v := 2) rfl dL_law_855 kc_2 ?_
        refine V_iadd rfl dL_law_856 ?_
        replace h := rx_e h
        obtain ⟨hb361, h⟩ := h
        refine V_xld rfl dL_law_857 hb361 ?_
        refine V_aload_n rfl dL_law_858 rfl rfl ?_
        refine V_iload_n rfl dL_law_859 rfl rfl ?_
        refine V_iconst (v := 3) rfl dL_law_860 kc_3 ?_
        refine V_iadd rfl dL_law_861 ?_
        replace h := rx_e h
        obtain ⟨hb363, h⟩ := h
        refine V_xld rfl dL_law_862 hb363 ?_
        refine V_aload_n rfl dL_law_863 rfl rfl ?_
        refine V_iload_n rfl dL_law_864 rfl rfl ?_
        refine V_iconst (v := 4) rfl dL_law_865 kc_4 ?_
        refine V_iadd rfl dL_law_866 ?_
        replace h := rx_e h
        obtain ⟨hb365, h⟩ := h
        refine V_xld rfl dL_law_867 hb365 ?_
        replace h := cl_e h
        obtain ⟨w366, M367, hc368, h⟩ := h
        refine V_ii (As := [.int _, .int _, .int _, .int _]) rfl dL_law_868 mf_X11_fits ⟨w_1135, w_1136⟩ w_1134 (by decide) s0_0 rfl rfl rfl rfl ⟨rfl, rfl⟩ (t_X11_fits hc368) ?_
        refine V_aload_n rfl dL_law_871 rfl rfl ?_
        refine V_aload_n rfl dL_law_872 rfl rfl ?_
        refine V_iload_n rfl dL_law_873 rfl rfl ?_
        refine V_iconst (v := 1) rfl dL_law_874 kc_1 ?_
        refine V_iadd rfl dL_law_875 ?_
        replace h := rx_e h
        obtain ⟨hb370, h⟩ := h
        refine V_xld rfl dL_law_876 hb370 ?_
        refine V_aload_n rfl dL_law_877 rfl rfl ?_
        refine V_iload_n rfl dL_law_878 rfl rfl ?_
        refine V_iconst (v := 2) rfl dL_law_879 kc_2 ?_
        refine V_iadd rfl dL_law_880 ?_
        replace h := rx_e h
        obtain ⟨hb372, h⟩ := h
        refine V_xld rfl dL_law_881 hb372 ?_
        refine V_aload_n rfl dL_law_882 rfl rfl ?_
        refine V_iload_n rfl dL_law_883 rfl rfl ?_
        refine V_iconst (v := 3) rfl dL_law_884 kc_3 ?_
        refine V_iadd rfl dL_law_885 ?_
        replace h := rx_e h
        obtain ⟨hb374, h⟩ := h
        refine V_xld rfl dL_law_886 hb374 ?_
        refine V_aload_n rfl dL_law_887 rfl rfl ?_
        refine V_iload_n rfl dL_law_888 rfl rfl ?_
        refine V_iconst (v := 4) rfl dL_law_889 kc_4 ?_
        refine V_iadd rfl dL_law_890 ?_
        replace h := rx_e h
        obtain ⟨hb376, h⟩ := h
        refine V_xld rfl dL_law_891 hb376 ?_
        replace h := cl_e h
        obtain ⟨w377, M378, hc379, h⟩ := h
        refine V_ii (As := [.int _, .int _, .int _, .int _]) rfl dL_law_892 mf_X12_fits ⟨w_1773, w_1774⟩ w_1772 (by decide) s0_136 rfl rfl rfl rfl ⟨rfl, rfl⟩ (t_X12_fits hc379) ?_
        refine V_icmp_eq (t := 1087) rfl rfl dL_law_895 (fun hc380 => ?_) (fun hc380 => ?_)
        · replace h := ifp hc380 h
          replace h := lt_e h
          refine V_inc (L' := [_, _, _, _]) rfl dL_law_1087 rfl kc_6 (by decide) rfl ?_
          refine V_goto (t := 18) rfl dL_law_1090 ?_
          exact V_sub (le_s (le_s (le_s (le_s le_0)))) (hr18 _ _ h)
        · replace h := ifn hc380 h
          refine V_iconst (v := 0) rfl dL_law_898 kc_0 ?_
          cases h
          exact V_iret dL_law_899 rfl nz_0 (Nat.le_of_ble_eq_true rfl) (Nat.le_of_ble_eq_true rfl) qI_ok
      replace h := ift h
      rcases h with ⟨hc382, h⟩ | ⟨hc382, h⟩
      · refine V_tabAt (off := 867) (t := 900) hc382 dL_law_33 (by decide +kernel) rfl ?_
        refine V_aload_n rfl dL_law_900 rfl rfl ?_
        refine V_aload_n rfl dL_law_901 rfl rfl ?_
        refine V_iload_n rfl dL_law_902 rfl rfl ?_
        refine V_iconst (v := 1) rfl dL_law_903 kc_1 ?_
        refine V_iadd rfl dL_law_904 ?_
        replace h := rx_e h
        obtain ⟨hb384, h⟩ := h
        refine V_xld rfl dL_law_905 hb384 ?_
        refine V_aload_n rfl dL_law_906 rfl rfl ?_
        refine V_iload_n rfl dL_law_907 rfl rfl ?_
        refine V_iconst (v := 2) rfl dL_law_908 kc_2 ?_
        refine V_iadd rfl dL_law_909 ?_
        replace h := rx_e h
        obtain ⟨hb386, h⟩ := h
        refine V_xld rfl dL_law_910 hb386 ?_
        replace h := cl_e h
        obtain ⟨w387, M388, hc389, h⟩ := h
        refine V_ii (As := [.int _, .int _]) rfl dL_law_911 mf_X11_crossed ⟨w_1153, w_1154⟩ w_1152 (by decide) s0_0 rfl rfl rfl rfl ⟨rfl, rfl⟩ (t_X11_crossed hc389) ?_
        refine V_aload_n rfl dL_law_914 rfl rfl ?_
        refine V_aload_n rfl dL_law_915 rfl rfl ?_
        refine V_iload_n rfl dL_law_916 rfl rfl ?_
        refine V_iconst (v := 1) rfl dL_law_917 kc_1 ?_
        refine V_iadd rfl dL_law_918 ?_
        replace h := rx_e h
        obtain ⟨hb391, h⟩ := h
        refine V_xld rfl dL_law_919 hb391 ?_
        refine V_aload_n rfl dL_law_920 rfl rfl ?_
        refine V_iload_n rfl dL_law_921 rfl rfl ?_
        refine V_iconst (v := 2) rfl dL_law_922 kc_2 ?_
        refine V_iadd rfl dL_law_923 ?_
        replace h := rx_e h
        obtain ⟨hb393, h⟩ := h
        refine V_xld rfl dL_law_924 hb393 ?_
        replace h := cl_e h
        obtain ⟨w394, M395, hc396, h⟩ := h
        refine V_ii (As := [.int _, .int _]) rfl dL_law_925 mf_X12_crossed ⟨w_1785, w_1786⟩ w_1784 (by decide) s0_136 rfl rfl rfl rfl ⟨rfl, rfl⟩ (t_X12_crossed hc396) ?_
        refine V_icmp_eq (t := 1087) rfl rfl dL_law_928 (fun hc397 => ?_) (fun hc397 => ?_)
        · replace h := ifp hc397 h
          replace h := lt_e h
          refine V_inc (L' := [_, _, _, _]) rfl dL_law_1087 rfl kc_6 (by decide) rfl ?_
          refine V_goto (t := 18) rfl dL_law_1090 ?_
          exact V_sub (le_s (le_s (le_s (le_s le_0)))) (hr18 _ _ h)
        · replace h := ifn hc397 h
          refine V_iconst (v := 0) rfl dL_law_931 kc_0 ?_
          cases h
          exact V_iret dL_law_932 rfl nz_0 (Nat.le_of_ble_eq_true rfl) (Nat.le_of_ble_eq_true rfl) qI_ok
      replace h := ift h
      rcases h with ⟨hc399, h⟩ | ⟨hc399, h⟩
      · refine V_tabAt (off := 900) (t := 933) hc399 dL_law_33 (by decide +kernel) rfl ?_
        refine V_aload_n rfl dL_law_933 rfl rfl ?_
        refine V_aload_n rfl dL_law_934 rfl rfl ?_
        refine V_iload_n rfl dL_law_935 rfl rfl ?_
        refine V_iconst (v := 1) rfl dL_law_936 kc_1 ?_
        refine V_iadd rfl dL_law_937 ?_
        replace h := rx_e h
        obtain ⟨hb401, h⟩ := h
        refine V_xld rfl dL_law_938 hb401 ?_
        replace h := cl_e h
        obtain ⟨w402, M403, hc404, h⟩ := h
        refine V_ii (As := [.int _]) rfl dL_law_939 mf_X11_line ⟨w_1158, w_1159⟩ w_1157 (by decide) s0_0 rfl rfl rfl rfl ⟨rfl, rfl⟩ (t_X11_line hc404) ?_
        refine V_aload_n rfl dL_law_942 rfl rfl ?_
        refine V_aload_n rfl dL_law_943 rfl rfl ?_
        refine V_iload_n rfl dL_law_944 rfl rfl ?_
        refine V_iconst (v := 1) rfl dL_law_945 kc_1 ?_
        refine V_iadd rfl dL_law_946 ?_
        replace h := rx_e h
        obtain ⟨hb406, h⟩ := h
        refine V_xld rfl dL_law_947 hb406 ?_
        replace h := cl_e h
        obtain ⟨w407, M408, hc409, h⟩ := h
        refine V_ii (As := [.int _]) rfl dL_law_948 mf_X12_line ⟨w_1790, w_1791⟩ w_1789 (by decide) s0_136 rfl rfl rfl rfl ⟨rfl, rfl⟩ (t_X12_line hc409) ?_
        refine V_icmp_eq (t := 1087) rfl rfl dL_law_951 (fun hc410 => ?_) (fun hc410 => ?_)
        · replace h := ifp hc410 h
          replace h := lt_e h
          refine V_inc (L' := [_, _, _, _]) rfl dL_law_1087 rfl kc_6 (by decide) rfl ?_
          refine V_goto (t := 18) rfl dL_law_1090 ?_
          exact V_sub (le_s (le_s (le_s (le_s le_0)))) (hr18 _ _ h)
        · replace h := ifn hc410 h
          refine V_iconst (v := 0) rfl dL_law_954 kc_0 ?_
          cases h
          exact V_iret dL_law_955 rfl nz_0 (Nat.le_of_ble_eq_true rfl) (Nat.le_of_ble_eq_true rfl) qI_ok
      replace h := ift h
      rcases h with ⟨hc412, h⟩ | ⟨hc412, h⟩
      · refine V_tabAt (off := 923) (t := 956) hc412 dL_law_33 (by decide +kernel) rfl ?_
        refine V_aload_n rfl dL_law_956 rfl rfl ?_
        refine V_aload_n rfl dL_law_957 rfl rfl ?_
        refine V_iload_n rfl dL_law_958 rfl rfl ?_
        refine V_iconst (v := 1) rfl dL_law_959 kc_1 ?_
        refine V_iadd rfl dL_law_960 ?_
        replace h := rx_e h
        obtain ⟨hb414, h⟩ := h
        refine V_xld rfl dL_law_961 hb414 ?_
        refine V_aload_n rfl dL_law_962 rfl rfl ?_
        refine V_iload_n rfl dL_law_963 rfl rfl ?_
        refine V_iconst (v := 2) rfl dL_law_964 kc_2 ?_
        refine V_iadd rfl dL_law_965 ?_
        replace h := rx_e h
        obtain ⟨hb416, h⟩ := h
        refine V_xld rfl dL_law_966 hb416 ?_
        replace h := cl_e h
        obtain ⟨w417, M418, hc419, h⟩ := h
        refine V_ii (As := [.int _, .int _]) rfl dL_law_967 mf_X11_owes ⟨w_1170, w_1171⟩ w_1169 (by decide) s0_0 rfl rfl rfl rfl ⟨rfl, rfl⟩ (t_X11_owes hc419) ?_
        refine V_aload_n rfl dL_law_970 rfl rfl ?_
        refine V_aload_n rfl dL_law_971 rfl rfl ?_
        refine V_iload_n rfl dL_law_972 rfl rfl ?_
        refine V_iconst (v := 1) rfl dL_law_973 kc_1 ?_
        refine V_iadd rfl dL_law_974 ?_
        replace h := rx_e h
        obtain ⟨hb421, h⟩ := h
        refine V_xld rfl dL_law_975 hb421 ?_
        refine V_aload_n rfl dL_law_976 rfl rfl ?_
        refine V_iload_n rfl dL_law_977 rfl rfl ?_
        refine V_iconst (v := 2) rfl dL_law_978 kc_2 ?_
        refine V_iadd rfl dL_law_979 ?_
        replace h := rx_e h
        obtain ⟨hb423, h⟩ := h
        refine V_xld rfl dL_law_980 hb423 ?_
        replace h := cl_e h
        obtain ⟨w424, M425, hc426, h⟩ := h
        refine V_ii (As := [.int _, .int _]) rfl dL_law_981 mf_X12_owes ⟨w_1802, w_1803⟩ w_1801 (by decide) s0_136 rfl rfl rfl rfl ⟨rfl, rfl⟩ (t_X12_owes hc426) ?_
        refine V_icmp_eq (t := 1087) rfl rfl dL_law_984 (fun hc427 => ?_) (fun hc427 => ?_)
        · replace h := ifp hc427 h
          replace h := lt_e h
          refine V_inc (L' := [_, _, _, _]) rfl dL_law_1087 rfl kc_6 (by decide) rfl ?_
          refine V_goto (t := 18) rfl dL_law_1090 ?_
          exact V_sub (le_s (le_s (le_s (le_s le_0)))) (hr18 _ _ h)
        · replace h := ifn hc427 h
          refine V_iconst (v := 0) rfl dL_law_987 kc_0 ?_
          cases h
          exact V_iret dL_law_988 rfl nz_0 (Nat.le_of_ble_eq_true rfl) (Nat.le_of_ble_eq_true rfl) qI_ok
      replace h := ift h
      rcases h with ⟨hc429, h⟩ | ⟨hc429, h⟩
      · refine V_tabAt (off := 956) (t := 989) hc429 dL_law_33 (by decide +kernel) rfl ?_
        refine V_aload_n rfl dL_law_989 rfl rfl ?_
        refine V_aload_n rfl dL_law_990 rfl rfl ?_
        refine V_iload_n rfl dL_law_991 rfl rfl ?_
        refine V_iconst (v := 1) rfl dL_law_992 kc_1 ?_
        refine V_iadd rfl dL_law_993 ?_
        replace h := rx_e h
        obtain ⟨hb431, h⟩ := h
        refine V_xld rfl dL_law_994 hb431 ?_
        replace h := cl_e h
        obtain ⟨w432, M433, hc434, h⟩ := h
        refine V_ii (As := [.int _]) rfl dL_law_995 mf_X11_asks ⟨w_1179, w_1180⟩ w_1178 (by decide) s0_0 rfl rfl rfl rfl ⟨rfl, rfl⟩ (t_X11_asks hc434) ?_
        refine V_aload_n rfl dL_law_998 rfl rfl ?_
        refine V_aload_n rfl dL_law_999 rfl rfl ?_
        refine V_iload_n rfl dL_law_1000 rfl rfl ?_
        refine V_iconst (v := 1) rfl dL_law_1001 kc_1 ?_
        refine V_iadd rfl dL_law_1002 ?_
        replace h := rx_e h
        obtain ⟨hb436, h⟩ := h
        refine V_xld rfl dL_law_1003 hb436 ?_
        replace h := cl_e h
        obtain ⟨w437, M438, hc439, h⟩ := h
        refine V_ii (As := [.int _]) rfl dL_law_1004 mf_X12_asks ⟨w_1815, w_1816⟩ w_1814 (by decide) s0_136 rfl rfl rfl rfl ⟨rfl, rfl⟩ (t_X12_asks hc439) ?_
        refine V_icmp_eq (t := 1087) rfl rfl dL_law_1007 (fun hc440 => ?_) (fun hc440 => ?_)
        · replace h := ifp hc440 h
          replace h := lt_e h
          refine V_inc (L' := [_, _, _, _]) rfl dL_law_1087 rfl kc_6 (by decide) rfl ?_
          refine V_goto (t := 18) rfl dL_law_1090 ?_
          exact V_sub (le_s (le_s (le_s (le_s le_0)))) (hr18 _ _ h)
        · replace h := ifn hc440 h
          refine V_iconst (v := 0) rfl dL_law_1010 kc_0 ?_
          cases h
          exact V_iret dL_law_1011 rfl nz_0 (Nat.le_of_ble_eq_true rfl) (Nat.le_of_ble_eq_true rfl) qI_ok
      replace h := ift h
      rcases h with ⟨hc442, h⟩ | ⟨hc442, h⟩
      · refine V_tabAt (off := 979) (t := 1012) hc442 dL_law_33 (by decide +kernel) rfl ?_
        refine V_aload_n rfl dL_law_1012 rfl rfl ?_
        replace h := cl_e h
        obtain ⟨w443, M444, hc445, h⟩ := h
        refine V_ii (As := []) rfl dL_law_1013 mf_X11_undo ⟨w_946, w_947⟩ w_945 (by decide) s0_0 rfl rfl rfl rfl ⟨rfl, rfl⟩ (t_X11_undo hc445) ?_
        refine V_aload_n rfl dL_law_1016 rfl rfl ?_
        replace h := cl_e h
        obtain ⟨w446, M447, hc448, h⟩ := h
        refine V_ii (As := []) rfl dL_law_1017 mf_X12_undo ⟨w_1350, w_1351⟩ w_1349 (by decide) s0_136 rfl rfl rfl rfl ⟨rfl, rfl⟩ (t_X12_undo hc448) ?_
        refine V_icmp_eq (t := 1087) rfl rfl dL_law_1020 (fun hc449 => ?_) (fun hc449 => ?_)
        · replace h := ifp hc449 h
          replace h := lt_e h
          refine V_inc (L' := [_, _, _, _]) rfl dL_law_1087 rfl kc_6 (by decide) rfl ?_
          refine V_goto (t := 18) rfl dL_law_1090 ?_
          exact V_sub (le_s (le_s (le_s (le_s le_0)))) (hr18 _ _ h)
        · replace h := ifn hc449 h
          refine V_iconst (v := 0) rfl dL_law_1023 kc_0 ?_
          cases h
          exact V_iret dL_law_1024 rfl nz_0 (Nat.le_of_ble_eq_true rfl) (Nat.le_of_ble_eq_true rfl) qI_ok
      replace h := ift h
      rcases h with ⟨hc451, h⟩ | ⟨hc451, h⟩
      · refine V_tabAt (off := 992) (t := 1025) hc451 dL_law_33 (by decide +kernel) rfl ?_
        refine V_aload_n rfl dL_law_1025 rfl rfl ?_
        refine V_aload_n rfl dL_law_1026 rfl rfl ?_
        refine V_iload_n rfl dL_law_1027 rfl rfl ?_
        refine V_iconst (v := 1) rfl dL_law_1028 kc_1 ?_
        refine V_iadd rfl dL_law_1029 ?_
        replace h := rx_e h
        obtain ⟨hb453, h⟩ := h
        refine V_xld rfl dL_law_1030 hb453 ?_
        refine V_if_eq (t := 1038) rfl rfl dL_law_1031 (fun hc454 => ?_) (fun hc454 => ?_)
        · replace h := ifp hc454 h
          refine V_iconst (v := 0) rfl dL_law_1038 kc_0 ?_
          exact V_sub (le_s (le_s (le_s (le_s le_0)))) (t_L_law_1039 hr18 h)
        · replace h := ifn hc454 h
          refine V_iconst (v := 1) rfl dL_law_1034 kc_1 ?_
          refine V_goto (t := 1039) rfl dL_law_1035 ?_
          exact V_sub (le_s (le_s (le_s (le_s le_0)))) (t_L_law_1039 hr18 h)
      replace h := ift h
      rcases h with ⟨hc455, h⟩ | ⟨hc455, h⟩
      · refine V_tabAt (off := 1031) (t := 1064) hc455 dL_law_33 (by decide +kernel) rfl ?_
        refine V_aload_n rfl dL_law_1064 rfl rfl ?_
        refine V_aload_n rfl dL_law_1065 rfl rfl ?_
        refine V_iload_n rfl dL_law_1066 rfl rfl ?_
        refine V_iconst (v := 1) rfl dL_law_1067 kc_1 ?_
        refine V_iadd rfl dL_law_1068 ?_
        replace h := rx_e h
        obtain ⟨hb457, h⟩ := h
        refine V_xld rfl dL_law_1069 hb457 ?_
        replace h := cl_e h
        obtain ⟨w458, M459, hc460, h⟩ := h
        refine V_ii (As := [.int _]) rfl dL_law_1070 mf_X11_look ⟨w_992, w_993⟩ w_991 (by decide) s0_0 rfl rfl rfl rfl ⟨rfl, rfl⟩ (t_X11_look hc460) ?_
        refine V_aload_n rfl dL_law_1073 rfl rfl ?_
        refine V_aload_n rfl dL_law_1074 rfl rfl ?_
        refine V_iload_n rfl dL_law_1075 rfl rfl ?_
        refine V_iconst (v := 1) rfl dL_law_1076 kc_1 ?_
        refine V_iadd rfl dL_law_1077 ?_
        replace h := rx_e h
        obtain ⟨hb462, h⟩ := h
        refine V_xld rfl dL_law_1078 hb462 ?_
        replace h := cl_e h
        obtain ⟨w463, M464, hc465, h⟩ := h
        refine V_ii (As := [.int _]) rfl dL_law_1079 mf_X12_look ⟨w_1835, w_1836⟩ w_1834 (by decide) s0_136 rfl rfl rfl rfl ⟨rfl, rfl⟩ (t_X12_look hc465) ?_
        refine V_icmp_eq (t := 1087) rfl rfl dL_law_1082 (fun hc466 => ?_) (fun hc466 => ?_)
        · replace h := ifp hc466 h
          replace h := lt_e h
          refine V_inc (L' := [_, _, _, _]) rfl dL_law_1087 rfl kc_6 (by decide) rfl ?_
          refine V_goto (t := 18) rfl dL_law_1090 ?_
          exact V_sub (le_s (le_s (le_s (le_s le_0)))) (hr18 _ _ h)
        · replace h := ifn hc466 h
          refine V_iconst (v := 0) rfl dL_law_1085 kc_0 ?_
          cases h
          exact V_iret dL_law_1086 rfl nz_0 (Nat.le_of_ble_eq_true rfl) (Nat.le_of_ble_eq_true rfl) qI_ok
      refine V_tabOut (t := 1087) dL_law_33 (by have hc4i := ne_toInt (z := 0) (k := 0) hc4 (by decide +kernel); have hc17i := ne_toInt (z := 1) (k := 1) hc17 (by decide +kernel); have hc34i := ne_toInt (z := 2) (k := 2) hc34 (by decide +kernel); have hc55i := ne_toInt (z := 3) (k := 3) hc55 (by decide +kernel); have hc76i := ne_toInt (z := 4) (k := 4) hc76 (by decide +kernel); have hc105i := ne_toInt (z := 5) (k := 5) hc105 (by decide +kernel); have hc118i := ne_toInt (z := 6) (k := 6) hc118 (by decide +kernel); have hc131i := ne_toInt (z := 7) (k := 7) hc131 (by decide +kernel); have hc144i := ne_toInt (z := 8) (k := 8) hc144 (by decide +kernel); have hc157i := ne_toInt (z := 9) (k := 9) hc157 (by decide +kernel); have hc174i := ne_toInt (z := 10) (k := 10) hc174 (by decide +kernel); have hc187i := ne_toInt (z := 11) (k := 11) hc187 (by decide +kernel); have hc204i := ne_toInt (z := 12) (k := 12) hc204 (by decide +kernel); have hc221i := ne_toInt (z := 13) (k := 13) hc221 (by decide +kernel); have hc238i := ne_toInt (z := 14) (k := 14) hc238 (by decide +kernel); have hc255i := ne_toInt (z := 15) (k := 15) hc255 (by decide +kernel); have hc272i := ne_toInt (z := 16) (k := 16) hc272 (by decide +kernel); have hc285i := ne_toInt (z := 17) (k := 17) hc285 (by decide +kernel); have hc298i := ne_toInt (z := 18) (k := 18) hc298 (by decide +kernel); have hc315i := ne_toInt (z := 19) (k := 19) hc315 (by decide +kernel); have hc336i := ne_toInt (z := 20) (k := 20) hc336 (by decide +kernel); have hc357i := ne_toInt (z := 21) (k := 21) hc357 (by decide +kernel); have hc382i := ne_toInt (z := 22) (k := 22) hc382 (by decide +kernel); have hc399i := ne_toInt (z := 23) (k := 23) hc399 (by decide +kernel); have hc412i := ne_toInt (z := 24) (k := 24) hc412 (by decide +kernel); have hc429i := ne_toInt (z := 25) (k := 25) hc429 (by decide +kernel); have hc442i := ne_toInt (z := 26) (k := 26) hc442 (by decide +kernel); have hc451i := ne_toInt (z := 27) (k := 27) hc451 (by decide +kernel); have hc455i := ne_toInt (z := 28) (k := 28) hc455 (by decide +kernel); omega) rfl ?_
      replace h := lt_e h
      refine V_inc (L' := [_, _, _, _]) rfl dL_law_1087 rfl kc_6 (by decide) rfl ?_
      refine V_goto (t := 18) rfl dL_law_1090 ?_
      exact V_sub (le_s (le_s (le_s (le_s le_0)))) (hr18 _ _ h)
def f_L_law (xs : Nat → Int32) (nL : Nat) (M : IM) : IR := f_L_law_18 xs nL BG 0 M
set_option maxRecDepth 100000 in
set_option maxHeartbeats 4000000 in
theorem t_L_law {g : IG} {a : Nat → Nat} {R : Int32 × IM} {M : IM} (h : f_L_law (gx g) (gL g) M = some R) : V g mL_law 31 600000 7302249 (qI S0 a R) 16 [some (.ref (gb g)), some (.ref (a 0)), some (.ref (a 136)), none] [] a S0 M 165 176927 := by
  unfold f_L_law at h
  refine V_iconst (v := 0) rfl dL_law_16 kc_0 ?_
  refine V_istore_n (L' := [_, _, _, _]) rfl rfl dL_law_17 (by decide) rfl ?_
  exact V_sub (le_s (le_s (le_s (le_s le_0)))) (t_L_law_18 BG _ _ h)
