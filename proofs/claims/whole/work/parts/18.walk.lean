theorem wd_409 : Cond.methodLink RL 19 yX8_feed ∈ JT := JT_of (List.mem_of_getElem? (i := 409) (by decide +kernel)) (by decide +kernel)
theorem wd_417 : Cond.methodLink RL 24 yX8_book ∈ JT := JT_of (List.mem_of_getElem? (i := 417) (by decide +kernel)) (by decide +kernel)
theorem wd_654 : Cond.methodLink RL 28 yX8_fault ∈ JT := JT_of (List.mem_of_getElem? (i := 654) (by decide +kernel)) (by decide +kernel)
theorem wd_658 : Cond.methodLink RL 33 yX8_where ∈ JT := JT_of (List.mem_of_getElem? (i := 658) (by decide +kernel)) (by decide +kernel)
theorem wd_662 : Cond.methodLink RL 37 yX8_shows ∈ JT := JT_of (List.mem_of_getElem? (i := 662) (by decide +kernel)) (by decide +kernel)
theorem wd_683 : Cond.methodLink RL 42 yX8_whose ∈ JT := JT_of (List.mem_of_getElem? (i := 683) (by decide +kernel)) (by decide +kernel)
theorem wd_695 : Cond.methodLink RL 46 yX8_was ∈ JT := JT_of (List.mem_of_getElem? (i := 695) (by decide +kernel)) (by decide +kernel)
theorem wd_716 : Cond.methodLink RL 51 yX8_scraped ∈ JT := JT_of (List.mem_of_getElem? (i := 716) (by decide +kernel)) (by decide +kernel)
theorem wd_721 : Cond.methodLink RL 55 yX8_deep ∈ JT := JT_of (List.mem_of_getElem? (i := 721) (by decide +kernel)) (by decide +kernel)
theorem wd_729 : Cond.methodLink RL 59 yX8_relief ∈ JT := JT_of (List.mem_of_getElem? (i := 729) (by decide +kernel)) (by decide +kernel)
theorem wd_741 : Cond.methodLink RL 63 yX8_light ∈ JT := JT_of (List.mem_of_getElem? (i := 741) (by decide +kernel)) (by decide +kernel)
theorem wd_745 : Cond.methodLink RL 67 yX8_area ∈ JT := JT_of (List.mem_of_getElem? (i := 745) (by decide +kernel)) (by decide +kernel)
theorem wd_751 : Cond.methodLink RL 71 yX8_share ∈ JT := JT_of (List.mem_of_getElem? (i := 751) (by decide +kernel)) (by decide +kernel)
theorem wd_759 : Cond.methodLink RL 75 yX8_old ∈ JT := JT_of (List.mem_of_getElem? (i := 759) (by decide +kernel)) (by decide +kernel)
theorem wd_764 : Cond.methodLink RL 79 yX8_changes ∈ JT := JT_of (List.mem_of_getElem? (i := 764) (by decide +kernel)) (by decide +kernel)
theorem wd_773 : Cond.methodLink RL 83 yX8_work ∈ JT := JT_of (List.mem_of_getElem? (i := 773) (by decide +kernel)) (by decide +kernel)
theorem wd_813 : Cond.methodLink RL 87 yX8_paint ∈ JT := JT_of (List.mem_of_getElem? (i := 813) (by decide +kernel)) (by decide +kernel)
theorem wd_817 : Cond.methodLink RL 91 yX8_judged ∈ JT := JT_of (List.mem_of_getElem? (i := 817) (by decide +kernel)) (by decide +kernel)
theorem wd_842 : Cond.methodLink RL 95 yX8_breaks ∈ JT := JT_of (List.mem_of_getElem? (i := 842) (by decide +kernel)) (by decide +kernel)
theorem wd_861 : Cond.methodLink RL 99 yX8_forged ∈ JT := JT_of (List.mem_of_getElem? (i := 861) (by decide +kernel)) (by decide +kernel)
theorem wd_866 : Cond.methodLink RL 103 yX8_left ∈ JT := JT_of (List.mem_of_getElem? (i := 866) (by decide +kernel)) (by decide +kernel)
theorem wd_875 : Cond.methodLink RL 107 yX8_before ∈ JT := JT_of (List.mem_of_getElem? (i := 875) (by decide +kernel)) (by decide +kernel)
theorem wd_893 : Cond.methodLink RL 111 yX8_untold ∈ JT := JT_of (List.mem_of_getElem? (i := 893) (by decide +kernel)) (by decide +kernel)
theorem wd_902 : Cond.methodLink RL 115 yX8_orders ∈ JT := JT_of (List.mem_of_getElem? (i := 902) (by decide +kernel)) (by decide +kernel)
theorem wd_910 : Cond.methodLink RL 120 yX8_placed ∈ JT := JT_of (List.mem_of_getElem? (i := 910) (by decide +kernel)) (by decide +kernel)
theorem wd_923 : Cond.methodLink RL 125 yX8_ahead ∈ JT := JT_of (List.mem_of_getElem? (i := 923) (by decide +kernel)) (by decide +kernel)
theorem wd_927 : Cond.methodLink RL 130 yX8_wanted ∈ JT := JT_of (List.mem_of_getElem? (i := 927) (by decide +kernel)) (by decide +kernel)
theorem wd_935 : Cond.methodLink RL 134 yX8_alike ∈ JT := JT_of (List.mem_of_getElem? (i := 935) (by decide +kernel)) (by decide +kernel)
theorem wd_945 : Cond.methodLink RL 138 yX8_best ∈ JT := JT_of (List.mem_of_getElem? (i := 945) (by decide +kernel)) (by decide +kernel)
theorem wd_999 : Cond.methodLink RL 142 yX8_need ∈ JT := JT_of (List.mem_of_getElem? (i := 999) (by decide +kernel)) (by decide +kernel)
theorem wd_1019 : Cond.methodLink RL 146 yX8_step ∈ JT := JT_of (List.mem_of_getElem? (i := 1019) (by decide +kernel)) (by decide +kernel)
theorem wd_1031 : Cond.methodLink RL 150 yX8_reach ∈ JT := JT_of (List.mem_of_getElem? (i := 1031) (by decide +kernel)) (by decide +kernel)
theorem wd_1046 : Cond.methodLink RL 154 yX8_least ∈ JT := JT_of (List.mem_of_getElem? (i := 1046) (by decide +kernel)) (by decide +kernel)
theorem wd_1054 : Cond.methodLink RL 158 yX8_freed ∈ JT := JT_of (List.mem_of_getElem? (i := 1054) (by decide +kernel)) (by decide +kernel)
theorem wd_1058 : Cond.methodLink RL 162 yX8_begin ∈ JT := JT_of (List.mem_of_getElem? (i := 1058) (by decide +kernel)) (by decide +kernel)
theorem wd_1075 : Cond.methodLink RL 167 yX8_patch ∈ JT := JT_of (List.mem_of_getElem? (i := 1075) (by decide +kernel)) (by decide +kernel)
theorem wd_1086 : Cond.methodLink RL 172 yX8_dry ∈ JT := JT_of (List.mem_of_getElem? (i := 1086) (by decide +kernel)) (by decide +kernel)
theorem wd_1090 : Cond.methodLink RL 176 yX8_wipe ∈ JT := JT_of (List.mem_of_getElem? (i := 1090) (by decide +kernel)) (by decide +kernel)
theorem wd_1094 : Cond.methodLink RL 181 yX8_wet ∈ JT := JT_of (List.mem_of_getElem? (i := 1094) (by decide +kernel)) (by decide +kernel)
theorem wd_1098 : Cond.methodLink RL 185 yX8_wetJudged ∈ JT := JT_of (List.mem_of_getElem? (i := 1098) (by decide +kernel)) (by decide +kernel)
theorem wd_1102 : Cond.methodLink RL 189 yX8_scrape ∈ JT := JT_of (List.mem_of_getElem? (i := 1102) (by decide +kernel)) (by decide +kernel)
theorem wd_1106 : Cond.methodLink RL 193 yX8_thief ∈ JT := JT_of (List.mem_of_getElem? (i := 1106) (by decide +kernel)) (by decide +kernel)
theorem wd_1119 : Cond.methodLink RL 197 yX8_undo ∈ JT := JT_of (List.mem_of_getElem? (i := 1119) (by decide +kernel)) (by decide +kernel)
theorem wd_1127 : Cond.methodLink RL 201 yX8_image ∈ JT := JT_of (List.mem_of_getElem? (i := 1127) (by decide +kernel)) (by decide +kernel)
theorem wd_1132 : Cond.methodLink RL 205 yX8_back ∈ JT := JT_of (List.mem_of_getElem? (i := 1132) (by decide +kernel)) (by decide +kernel)
theorem wd_1136 : Cond.methodLink RL 219 yX8_size ∈ JT := JT_of (List.mem_of_getElem? (i := 1136) (by decide +kernel)) (by decide +kernel)
theorem wd_1141 : Cond.methodLink RL 223 yX8_trouble ∈ JT := JT_of (List.mem_of_getElem? (i := 1141) (by decide +kernel)) (by decide +kernel)
theorem wd_1145 : Cond.methodLink RL 210 yL_led ∈ JT := JT_of (List.mem_of_getElem? (i := 1145) (by decide +kernel)) (by decide +kernel)
theorem wd_1328 : Cond.methodLink RL 216 yX9_thrown ∈ JT := JT_of (List.mem_of_getElem? (i := 1328) (by decide +kernel)) (by decide +kernel)
theorem wd_1332 : Cond.methodLink RL 23 yX9_feed ∈ JT := JT_of (List.mem_of_getElem? (i := 1332) (by decide +kernel)) (by decide +kernel)
theorem wd_1336 : Cond.methodLink RL 27 yX9_book ∈ JT := JT_of (List.mem_of_getElem? (i := 1336) (by decide +kernel)) (by decide +kernel)
theorem wd_1525 : Cond.methodLink RL 32 yX9_fault ∈ JT := JT_of (List.mem_of_getElem? (i := 1525) (by decide +kernel)) (by decide +kernel)
theorem wd_1529 : Cond.methodLink RL 36 yX9_where ∈ JT := JT_of (List.mem_of_getElem? (i := 1529) (by decide +kernel)) (by decide +kernel)
theorem wd_1533 : Cond.methodLink RL 41 yX9_shows ∈ JT := JT_of (List.mem_of_getElem? (i := 1533) (by decide +kernel)) (by decide +kernel)
theorem wd_1557 : Cond.methodLink RL 45 yX9_whose ∈ JT := JT_of (List.mem_of_getElem? (i := 1557) (by decide +kernel)) (by decide +kernel)
theorem wd_1561 : Cond.methodLink RL 50 yX9_was ∈ JT := JT_of (List.mem_of_getElem? (i := 1561) (by decide +kernel)) (by decide +kernel)
theorem wd_1573 : Cond.methodLink RL 54 yX9_scraped ∈ JT := JT_of (List.mem_of_getElem? (i := 1573) (by decide +kernel)) (by decide +kernel)
theorem wd_1577 : Cond.methodLink RL 58 yX9_deep ∈ JT := JT_of (List.mem_of_getElem? (i := 1577) (by decide +kernel)) (by decide +kernel)
theorem wd_1581 : Cond.methodLink RL 62 yX9_relief ∈ JT := JT_of (List.mem_of_getElem? (i := 1581) (by decide +kernel)) (by decide +kernel)
theorem wd_1589 : Cond.methodLink RL 66 yX9_light ∈ JT := JT_of (List.mem_of_getElem? (i := 1589) (by decide +kernel)) (by decide +kernel)
theorem wd_1593 : Cond.methodLink RL 70 yX9_area ∈ JT := JT_of (List.mem_of_getElem? (i := 1593) (by decide +kernel)) (by decide +kernel)
theorem wd_1601 : Cond.methodLink RL 74 yX9_share ∈ JT := JT_of (List.mem_of_getElem? (i := 1601) (by decide +kernel)) (by decide +kernel)
theorem wd_1605 : Cond.methodLink RL 78 yX9_old ∈ JT := JT_of (List.mem_of_getElem? (i := 1605) (by decide +kernel)) (by decide +kernel)
theorem wd_1609 : Cond.methodLink RL 82 yX9_changes ∈ JT := JT_of (List.mem_of_getElem? (i := 1609) (by decide +kernel)) (by decide +kernel)
theorem wd_1613 : Cond.methodLink RL 86 yX9_work ∈ JT := JT_of (List.mem_of_getElem? (i := 1613) (by decide +kernel)) (by decide +kernel)
theorem wd_1647 : Cond.methodLink RL 90 yX9_paint ∈ JT := JT_of (List.mem_of_getElem? (i := 1647) (by decide +kernel)) (by decide +kernel)
theorem wd_1651 : Cond.methodLink RL 94 yX9_judged ∈ JT := JT_of (List.mem_of_getElem? (i := 1651) (by decide +kernel)) (by decide +kernel)
theorem wd_1671 : Cond.methodLink RL 98 yX9_breaks ∈ JT := JT_of (List.mem_of_getElem? (i := 1671) (by decide +kernel)) (by decide +kernel)
theorem wd_1682 : Cond.methodLink RL 102 yX9_forged ∈ JT := JT_of (List.mem_of_getElem? (i := 1682) (by decide +kernel)) (by decide +kernel)
theorem wd_1686 : Cond.methodLink RL 106 yX9_left ∈ JT := JT_of (List.mem_of_getElem? (i := 1686) (by decide +kernel)) (by decide +kernel)
theorem wd_1690 : Cond.methodLink RL 110 yX9_before ∈ JT := JT_of (List.mem_of_getElem? (i := 1690) (by decide +kernel)) (by decide +kernel)
theorem wd_1698 : Cond.methodLink RL 114 yX9_untold ∈ JT := JT_of (List.mem_of_getElem? (i := 1698) (by decide +kernel)) (by decide +kernel)
theorem wd_1702 : Cond.methodLink RL 119 yX9_orders ∈ JT := JT_of (List.mem_of_getElem? (i := 1702) (by decide +kernel)) (by decide +kernel)
theorem wd_1706 : Cond.methodLink RL 129 yX9_ahead ∈ JT := JT_of (List.mem_of_getElem? (i := 1706) (by decide +kernel)) (by decide +kernel)
theorem wd_1710 : Cond.methodLink RL 124 yX9_placed ∈ JT := JT_of (List.mem_of_getElem? (i := 1710) (by decide +kernel)) (by decide +kernel)
theorem wd_1714 : Cond.methodLink RL 133 yX9_wanted ∈ JT := JT_of (List.mem_of_getElem? (i := 1714) (by decide +kernel)) (by decide +kernel)
theorem wd_1722 : Cond.methodLink RL 137 yX9_alike ∈ JT := JT_of (List.mem_of_getElem? (i := 1722) (by decide +kernel)) (by decide +kernel)
theorem wd_1734 : Cond.methodLink RL 141 yX9_best ∈ JT := JT_of (List.mem_of_getElem? (i := 1734) (by decide +kernel)) (by decide +kernel)
theorem wd_1754 : Cond.methodLink RL 145 yX9_need ∈ JT := JT_of (List.mem_of_getElem? (i := 1754) (by decide +kernel)) (by decide +kernel)
theorem wd_1774 : Cond.methodLink RL 149 yX9_step ∈ JT := JT_of (List.mem_of_getElem? (i := 1774) (by decide +kernel)) (by decide +kernel)
theorem wd_1782 : Cond.methodLink RL 153 yX9_reach ∈ JT := JT_of (List.mem_of_getElem? (i := 1782) (by decide +kernel)) (by decide +kernel)
theorem wd_1786 : Cond.methodLink RL 157 yX9_least ∈ JT := JT_of (List.mem_of_getElem? (i := 1786) (by decide +kernel)) (by decide +kernel)
theorem wd_1794 : Cond.methodLink RL 161 yX9_freed ∈ JT := JT_of (List.mem_of_getElem? (i := 1794) (by decide +kernel)) (by decide +kernel)
theorem wd_1798 : Cond.methodLink RL 166 yX9_begin ∈ JT := JT_of (List.mem_of_getElem? (i := 1798) (by decide +kernel)) (by decide +kernel)
theorem wd_1814 : Cond.methodLink RL 171 yX9_patch ∈ JT := JT_of (List.mem_of_getElem? (i := 1814) (by decide +kernel)) (by decide +kernel)
theorem wd_1818 : Cond.methodLink RL 175 yX9_dry ∈ JT := JT_of (List.mem_of_getElem? (i := 1818) (by decide +kernel)) (by decide +kernel)
theorem wd_1822 : Cond.methodLink RL 180 yX9_wipe ∈ JT := JT_of (List.mem_of_getElem? (i := 1822) (by decide +kernel)) (by decide +kernel)
theorem wd_1826 : Cond.methodLink RL 184 yX9_wet ∈ JT := JT_of (List.mem_of_getElem? (i := 1826) (by decide +kernel)) (by decide +kernel)
theorem wd_1830 : Cond.methodLink RL 188 yX9_wetJudged ∈ JT := JT_of (List.mem_of_getElem? (i := 1830) (by decide +kernel)) (by decide +kernel)
theorem wd_1834 : Cond.methodLink RL 192 yX9_scrape ∈ JT := JT_of (List.mem_of_getElem? (i := 1834) (by decide +kernel)) (by decide +kernel)
theorem wd_1838 : Cond.methodLink RL 196 yX9_thief ∈ JT := JT_of (List.mem_of_getElem? (i := 1838) (by decide +kernel)) (by decide +kernel)
theorem wd_1842 : Cond.methodLink RL 200 yX9_undo ∈ JT := JT_of (List.mem_of_getElem? (i := 1842) (by decide +kernel)) (by decide +kernel)
theorem wd_1846 : Cond.methodLink RL 204 yX9_image ∈ JT := JT_of (List.mem_of_getElem? (i := 1846) (by decide +kernel)) (by decide +kernel)
theorem wd_1850 : Cond.methodLink RL 209 yX9_back ∈ JT := JT_of (List.mem_of_getElem? (i := 1850) (by decide +kernel)) (by decide +kernel)
theorem wd_1854 : Cond.methodLink RL 215 yX9_led ∈ JT := JT_of (List.mem_of_getElem? (i := 1854) (by decide +kernel)) (by decide +kernel)
theorem wd_1858 : Cond.methodLink RL 222 yX9_size ∈ JT := JT_of (List.mem_of_getElem? (i := 1858) (by decide +kernel)) (by decide +kernel)
theorem wd_1862 : Cond.methodLink RL 226 yX9_trouble ∈ JT := JT_of (List.mem_of_getElem? (i := 1862) (by decide +kernel)) (by decide +kernel)
theorem lk_L_19 : Cond.methodLink RL 19 yX8_feed ∈ JT := wd_409
theorem lk_L_23 : Cond.methodLink RL 23 yX9_feed ∈ JT := wd_1332
theorem lk_L_24 : Cond.methodLink RL 24 yX8_book ∈ JT := wd_417
theorem lk_L_27 : Cond.methodLink RL 27 yX9_book ∈ JT := wd_1336
theorem lk_L_28 : Cond.methodLink RL 28 yX8_fault ∈ JT := wd_654
theorem lk_L_32 : Cond.methodLink RL 32 yX9_fault ∈ JT := wd_1525
theorem lk_L_33 : Cond.methodLink RL 33 yX8_where ∈ JT := wd_658
theorem lk_L_36 : Cond.methodLink RL 36 yX9_where ∈ JT := wd_1529
theorem lk_L_37 : Cond.methodLink RL 37 yX8_shows ∈ JT := wd_662
theorem lk_L_41 : Cond.methodLink RL 41 yX9_shows ∈ JT := wd_1533
theorem lk_L_42 : Cond.methodLink RL 42 yX8_whose ∈ JT := wd_683
theorem lk_L_45 : Cond.methodLink RL 45 yX9_whose ∈ JT := wd_1557
theorem lk_L_46 : Cond.methodLink RL 46 yX8_was ∈ JT := wd_695
theorem lk_L_50 : Cond.methodLink RL 50 yX9_was ∈ JT := wd_1561
theorem lk_L_51 : Cond.methodLink RL 51 yX8_scraped ∈ JT := wd_716
theorem lk_L_54 : Cond.methodLink RL 54 yX9_scraped ∈ JT := wd_1573
theorem lk_L_55 : Cond.methodLink RL 55 yX8_deep ∈ JT := wd_721
theorem lk_L_58 : Cond.methodLink RL 58 yX9_deep ∈ JT := wd_1577
theorem lk_L_59 : Cond.methodLink RL 59 yX8_relief ∈ JT := wd_729
theorem lk_L_62 : Cond.methodLink RL 62 yX9_relief ∈ JT := wd_1581
theorem lk_L_63 : Cond.methodLink RL 63 yX8_light ∈ JT := wd_741
theorem lk_L_66 : Cond.methodLink RL 66 yX9_light ∈ JT := wd_1589
theorem lk_L_67 : Cond.methodLink RL 67 yX8_area ∈ JT := wd_745
theorem lk_L_70 : Cond.methodLink RL 70 yX9_area ∈ JT := wd_1593
theorem lk_L_71 : Cond.methodLink RL 71 yX8_share ∈ JT := wd_751
theorem lk_L_74 : Cond.methodLink RL 74 yX9_share ∈ JT := wd_1601
theorem lk_L_75 : Cond.methodLink RL 75 yX8_old ∈ JT := wd_759
theorem lk_L_78 : Cond.methodLink RL 78 yX9_old ∈ JT := wd_1605
theorem lk_L_79 : Cond.methodLink RL 79 yX8_changes ∈ JT := wd_764
theorem lk_L_82 : Cond.methodLink RL 82 yX9_changes ∈ JT := wd_1609
theorem lk_L_83 : Cond.methodLink RL 83 yX8_work ∈ JT := wd_773
theorem lk_L_86 : Cond.methodLink RL 86 yX9_work ∈ JT := wd_1613
theorem lk_L_87 : Cond.methodLink RL 87 yX8_paint ∈ JT := wd_813
theorem lk_L_90 : Cond.methodLink RL 90 yX9_paint ∈ JT := wd_1647
theorem lk_L_91 : Cond.methodLink RL 91 yX8_judged ∈ JT := wd_817
theorem lk_L_94 : Cond.methodLink RL 94 yX9_judged ∈ JT := wd_1651
theorem lk_L_95 : Cond.methodLink RL 95 yX8_breaks ∈ JT := wd_842
theorem lk_L_98 : Cond.methodLink RL 98 yX9_breaks ∈ JT := wd_1671
theorem lk_L_99 : Cond.methodLink RL 99 yX8_forged ∈ JT := wd_861
theorem lk_L_102 : Cond.methodLink RL 102 yX9_forged ∈ JT := wd_1682
theorem lk_L_103 : Cond.methodLink RL 103 yX8_left ∈ JT := wd_866
theorem lk_L_106 : Cond.methodLink RL 106 yX9_left ∈ JT := wd_1686
theorem lk_L_107 : Cond.methodLink RL 107 yX8_before ∈ JT := wd_875
theorem lk_L_110 : Cond.methodLink RL 110 yX9_before ∈ JT := wd_1690
theorem lk_L_111 : Cond.methodLink RL 111 yX8_untold ∈ JT := wd_893
theorem lk_L_114 : Cond.methodLink RL 114 yX9_untold ∈ JT := wd_1698
theorem lk_L_115 : Cond.methodLink RL 115 yX8_orders ∈ JT := wd_902
theorem lk_L_119 : Cond.methodLink RL 119 yX9_orders ∈ JT := wd_1702
theorem lk_L_120 : Cond.methodLink RL 120 yX8_placed ∈ JT := wd_910
theorem lk_L_124 : Cond.methodLink RL 124 yX9_placed ∈ JT := wd_1710
theorem lk_L_125 : Cond.methodLink RL 125 yX8_ahead ∈ JT := wd_923
theorem lk_L_129 : Cond.methodLink RL 129 yX9_ahead ∈ JT := wd_1706
theorem lk_L_130 : Cond.methodLink RL 130 yX8_wanted ∈ JT := wd_927
theorem lk_L_133 : Cond.methodLink RL 133 yX9_wanted ∈ JT := wd_1714
theorem lk_L_134 : Cond.methodLink RL 134 yX8_alike ∈ JT := wd_935
theorem lk_L_137 : Cond.methodLink RL 137 yX9_alike ∈ JT := wd_1722
theorem lk_L_138 : Cond.methodLink RL 138 yX8_best ∈ JT := wd_945
theorem lk_L_141 : Cond.methodLink RL 141 yX9_best ∈ JT := wd_1734
theorem lk_L_142 : Cond.methodLink RL 142 yX8_need ∈ JT := wd_999
theorem lk_L_145 : Cond.methodLink RL 145 yX9_need ∈ JT := wd_1754
theorem lk_L_146 : Cond.methodLink RL 146 yX8_step ∈ JT := wd_1019
theorem lk_L_149 : Cond.methodLink RL 149 yX9_step ∈ JT := wd_1774
theorem lk_L_150 : Cond.methodLink RL 150 yX8_reach ∈ JT := wd_1031
theorem lk_L_153 : Cond.methodLink RL 153 yX9_reach ∈ JT := wd_1782
theorem lk_L_154 : Cond.methodLink RL 154 yX8_least ∈ JT := wd_1046
theorem lk_L_157 : Cond.methodLink RL 157 yX9_least ∈ JT := wd_1786
theorem lk_L_158 : Cond.methodLink RL 158 yX8_freed ∈ JT := wd_1054
theorem lk_L_161 : Cond.methodLink RL 161 yX9_freed ∈ JT := wd_1794
theorem lk_L_162 : Cond.methodLink RL 162 yX8_begin ∈ JT := wd_1058
theorem lk_L_166 : Cond.methodLink RL 166 yX9_begin ∈ JT := wd_1798
theorem lk_L_167 : Cond.methodLink RL 167 yX8_patch ∈ JT := wd_1075
theorem lk_L_171 : Cond.methodLink RL 171 yX9_patch ∈ JT := wd_1814
theorem lk_L_172 : Cond.methodLink RL 172 yX8_dry ∈ JT := wd_1086
theorem lk_L_175 : Cond.methodLink RL 175 yX9_dry ∈ JT := wd_1818
theorem lk_L_176 : Cond.methodLink RL 176 yX8_wipe ∈ JT := wd_1090
theorem lk_L_180 : Cond.methodLink RL 180 yX9_wipe ∈ JT := wd_1822
theorem lk_L_181 : Cond.methodLink RL 181 yX8_wet ∈ JT := wd_1094
theorem lk_L_184 : Cond.methodLink RL 184 yX9_wet ∈ JT := wd_1826
theorem lk_L_185 : Cond.methodLink RL 185 yX8_wetJudged ∈ JT := wd_1098
theorem lk_L_188 : Cond.methodLink RL 188 yX9_wetJudged ∈ JT := wd_1830
theorem lk_L_189 : Cond.methodLink RL 189 yX8_scrape ∈ JT := wd_1102
theorem lk_L_192 : Cond.methodLink RL 192 yX9_scrape ∈ JT := wd_1834
theorem lk_L_193 : Cond.methodLink RL 193 yX8_thief ∈ JT := wd_1106
theorem lk_L_196 : Cond.methodLink RL 196 yX9_thief ∈ JT := wd_1838
theorem lk_L_197 : Cond.methodLink RL 197 yX8_undo ∈ JT := wd_1119
theorem lk_L_200 : Cond.methodLink RL 200 yX9_undo ∈ JT := wd_1842
theorem lk_L_201 : Cond.methodLink RL 201 yX8_image ∈ JT := wd_1127
theorem lk_L_204 : Cond.methodLink RL 204 yX9_image ∈ JT := wd_1846
theorem lk_L_205 : Cond.methodLink RL 205 yX8_back ∈ JT := wd_1132
theorem lk_L_209 : Cond.methodLink RL 209 yX9_back ∈ JT := wd_1850
theorem lk_L_215 : Cond.methodLink RL 215 yX9_led ∈ JT := wd_1854
theorem lk_L_216 : Cond.methodLink RL 216 yX9_thrown ∈ JT := wd_1328
theorem lk_L_219 : Cond.methodLink RL 219 yX8_size ∈ JT := wd_1136
theorem lk_L_222 : Cond.methodLink RL 222 yX9_size ∈ JT := wd_1858
theorem lk_L_223 : Cond.methodLink RL 223 yX8_trouble ∈ JT := wd_1141
theorem lk_L_226 : Cond.methodLink RL 226 yX9_trouble ∈ JT := wd_1862
/-! ===== what is owed of the mirrors: each call answers alike and keeps the relation ===== -/
def so_feed (Rel : AH → AH → Prop) : Prop := ∀ hc hm, Rel hc hm → ∀ a b c d e : Int32, ∃ r hc' hm', jX_feed hc a b c d e = some (r, hc') ∧ jM_feed hm a b c d e = some (r, hm') ∧ Rel hc' hm'
def so_book (Rel : AH → AH → Prop) : Prop := ∀ hc hm, Rel hc hm → ∀ a : Int32, ∃ r hc' hm', jX_book hc a = some (r, hc') ∧ jM_book hm a = some (r, hm') ∧ Rel hc' hm'
def so_fault (Rel : AH → AH → Prop) : Prop := ∀ hc hm, Rel hc hm → ∃ r hm', jX_fault hc = some r ∧ jM_fault hm = some (r, hm') ∧ Rel hc hm'
def so_where (Rel : AH → AH → Prop) : Prop := ∀ hc hm, Rel hc hm → ∃ r hm', jX_where hc = some r ∧ jM_where hm = some (r, hm') ∧ Rel hc hm'
def so_shows (Rel : AH → AH → Prop) : Prop := ∀ hc hm, Rel hc hm → ∀ a b : Int32, ∃ r hc' hm', jX_shows hc a b = some (r, hc') ∧ jM_shows hm a b = some (r, hm') ∧ Rel hc' hm'
def so_whose (Rel : AH → AH → Prop) : Prop := ∀ hc hm, Rel hc hm → ∀ a b : Int32, ∃ r hc' hm', jX_whose hc a b = some (r, hc') ∧ jM_whose hm a b = some (r, hm') ∧ Rel hc' hm'
def so_was (Rel : AH → AH → Prop) : Prop := ∀ hc hm, Rel hc hm → ∀ a b c : Int32, ∃ r hc' hm', jX_was hc a b c = some (r, hc') ∧ jM_was hm a b c = some (r, hm') ∧ Rel hc' hm'
def so_scraped (Rel : AH → AH → Prop) : Prop := ∀ hc hm, Rel hc hm → ∀ a b c : Int32, ∃ r hc' hm', jX_scraped hc a b c = some (r, hc') ∧ jM_scraped hm a b c = some (r, hm') ∧ Rel hc' hm'
def so_deep (Rel : AH → AH → Prop) : Prop := ∀ hc hm, Rel hc hm → ∀ a b : Int32, ∃ r hc' hm', jX_deep hc a b = some (r, hc') ∧ jM_deep hm a b = some (r, hm') ∧ Rel hc' hm'
def so_relief (Rel : AH → AH → Prop) : Prop := ∀ hc hm, Rel hc hm → ∀ a b : Int32, ∃ r hc' hm', jX_relief hc a b = some (r, hc') ∧ jM_relief hm a b = some (r, hm') ∧ Rel hc' hm'
def so_light (Rel : AH → AH → Prop) : Prop := ∀ hc hm, Rel hc hm → ∀ a b : Int32, ∃ r hc' hm', jX_light hc a b = some (r, hc') ∧ jM_light hm a b = some (r, hm') ∧ Rel hc' hm'
def so_area (Rel : AH → AH → Prop) : Prop := ∀ hc hm, Rel hc hm → ∀ a : Int32, ∃ r hc' hm', jX_area hc a = some (r, hc') ∧ jM_area hm a = some (r, hm') ∧ Rel hc' hm'
def so_share (Rel : AH → AH → Prop) : Prop := ∀ hc hm, Rel hc hm → ∀ a : Int32, ∃ r hc' hm', jX_share hc a = some (r, hc') ∧ jM_share hm a = some (r, hm') ∧ Rel hc' hm'
def so_old (Rel : AH → AH → Prop) : Prop := ∀ hc hm, Rel hc hm → ∀ a : Int32, ∃ r hc' hm', jX_old hc a = some (r, hc') ∧ jM_old hm a = some (r, hm') ∧ Rel hc' hm'
def so_changes (Rel : AH → AH → Prop) : Prop := ∀ hc hm, Rel hc hm → ∀ a b : Int32, ∃ r hc' hm', jX_changes hc a b = some (r, hc') ∧ jM_changes hm a b = some (r, hm') ∧ Rel hc' hm'
def so_work (Rel : AH → AH → Prop) : Prop := ∀ hc hm, Rel hc hm → ∀ a b : Int32, ∃ r hc' hm', jX_work hc a b = some (r, hc') ∧ jM_work hm a b = some (r, hm') ∧ Rel hc' hm'
def so_paint (Rel : AH → AH → Prop) : Prop := ∀ hc hm, Rel hc hm → ∀ a b c : Int32, ∃ r hc' hm', jX_paint hc a b c = some (r, hc') ∧ jM_paint hm a b c = some (r, hm') ∧ Rel hc' hm'
def so_judged (Rel : AH → AH → Prop) : Prop := ∀ hc hm, Rel hc hm → ∀ a : Int32, ∃ r hc' hm', jX_judged hc a = some (r, hc') ∧ jM_judged hm a = some (r, hm') ∧ Rel hc' hm'
def so_breaks (Rel : AH → AH → Prop) : Prop := ∀ hc hm, Rel hc hm → ∀ a : Int32, ∃ r hc' hm', jX_breaks hc a = some (r, hc') ∧ jM_breaks hm a = some (r, hm') ∧ Rel hc' hm'
def so_forged (Rel : AH → AH → Prop) : Prop := ∀ hc hm, Rel hc hm → ∃ r hc' hm', jX_forged hc = some (r, hc') ∧ jM_forged hm = some (r, hm') ∧ Rel hc' hm'
def so_left (Rel : AH → AH → Prop) : Prop := ∀ hc hm, Rel hc hm → ∀ a : Int32, ∃ r hc' hm', jX_left hc a = some (r, hc') ∧ jM_left hm a = some (r, hm') ∧ Rel hc' hm'
def so_before (Rel : AH → AH → Prop) : Prop := ∀ hc hm, Rel hc hm → ∀ a b : Int32, ∃ r hc' hm', jX_before hc a b = some (r, hc') ∧ jM_before hm a b = some (r, hm') ∧ Rel hc' hm'
def so_untold (Rel : AH → AH → Prop) : Prop := ∀ hc hm, Rel hc hm → ∃ r hc' hm', jX_untold hc = some (r, hc') ∧ jM_untold hm = some (r, hm') ∧ Rel hc' hm'
def so_orders (Rel : AH → AH → Prop) : Prop := ∀ hc hm, Rel hc hm → ∃ r hc' hm', jX_orders hc = some (r, hc') ∧ jM_orders hm = some (r, hm') ∧ Rel hc' hm'
def so_placed (Rel : AH → AH → Prop) : Prop := ∀ hc hm, Rel hc hm → ∀ a b : Int32, (b = 0 ∨ b = 1) → ∃ r hc' hm', jX_placed hc a b = some (r, hc') ∧ jM_placed hm a b = some (r, hm') ∧ Rel hc' hm'
def so_ahead (Rel : AH → AH → Prop) : Prop := ∀ hc hm, Rel hc hm → ∀ a b : Int32, ∃ r hc' hm', jX_ahead hc a b = some (r, hc') ∧ jM_ahead hm a b = some (r, hm') ∧ Rel hc' hm'
def so_wanted (Rel : AH → AH → Prop) : Prop := ∀ hc hm, Rel hc hm → ∀ a b : Int32, ∃ r hc' hm', jX_wanted hc a b = some (r, hc') ∧ jM_wanted hm a b = some (r, hm') ∧ Rel hc' hm'
def so_alike (Rel : AH → AH → Prop) : Prop := ∀ hc hm, Rel hc hm → ∃ r hc' hm', jX_alike hc = some (r, hc') ∧ jM_alike hm = some (r, hm') ∧ Rel hc' hm'
def so_best (Rel : AH → AH → Prop) : Prop := ∀ hc hm, Rel hc hm → ∀ a b : Int32, ∃ r hc' hm', jX_best hc a b = some (r, hc') ∧ jM_best hm a b = some (r, hm') ∧ Rel hc' hm'
def so_need (Rel : AH → AH → Prop) : Prop := ∀ hc hm, Rel hc hm → ∀ a : Int32, ∃ r hc' hm', jX_need hc a = some (r, hc') ∧ jM_need hm a = some (r, hm') ∧ Rel hc' hm'
def so_step (Rel : AH → AH → Prop) : Prop := ∀ hc hm, Rel hc hm → ∀ a b : Int32, ∃ r hc' hm', jX_step hc a b = some (r, hc') ∧ jM_step hm a b = some (r, hm') ∧ Rel hc' hm'
def so_reach (Rel : AH → AH → Prop) : Prop := ∀ hc hm, Rel hc hm → ∀ a : Int32, ∃ r hc' hm', jX_reach hc a = some (r, hc') ∧ jM_reach hm a = some (r, hm') ∧ Rel hc' hm'
def so_least (Rel : AH → AH → Prop) : Prop := ∀ hc hm, Rel hc hm → ∀ a b : Int32, ∃ r hc' hm', jX_least hc a b = some (r, hc') ∧ jM_least hm a b = some (r, hm') ∧ Rel hc' hm'
def so_freed (Rel : AH → AH → Prop) : Prop := ∀ hc hm, Rel hc hm → ∀ a b : Int32, ∃ r hc' hm', jX_freed hc a b = some (r, hc') ∧ jM_freed hm a b = some (r, hm') ∧ Rel hc' hm'
def so_begin (Rel : AH → AH → Prop) : Prop := ∀ hc hm, Rel hc hm → ∀ a b : Int32, ∃ r hc' hm', jX_begin hc a b = some (r, hc') ∧ jM_begin hm a b = some (r, hm') ∧ Rel hc' hm'
def so_patch (Rel : AH → AH → Prop) : Prop := ∀ hc hm, Rel hc hm → ∀ a b c d e : Int32, ∃ r hc' hm', jX_patch hc a b c d e = some (r, hc') ∧ jM_patch hm a b c d e = some (r, hm') ∧ Rel hc' hm'
def so_dry (Rel : AH → AH → Prop) : Prop := ∀ hc hm, Rel hc hm → ∃ r hc' hm', jX_dry hc = some (r, hc') ∧ jM_dry hm = some (r, hm') ∧ Rel hc' hm'
def so_wipe (Rel : AH → AH → Prop) : Prop := ∀ hc hm, Rel hc hm → ∃ r hc' hm', jX_wipe hc = some (r, hc') ∧ jM_wipe hm = some (r, hm') ∧ Rel hc' hm'
def so_wet (Rel : AH → AH → Prop) : Prop := ∀ hc hm, Rel hc hm → ∀ a b : Int32, ∃ r hc' hm', jX_wet hc a b = some (r, hc') ∧ jM_wet hm a b = some (r, hm') ∧ Rel hc' hm'
def so_wetJudged (Rel : AH → AH → Prop) : Prop := ∀ hc hm, Rel hc hm → ∃ r hc' hm', jX_wetJudged hc = some (r, hc') ∧ jM_wetJudged hm = some (r, hm') ∧ Rel hc' hm'
def so_scrape (Rel : AH → AH → Prop) : Prop := ∀ hc hm, Rel hc hm → ∀ a b : Int32, ∃ r hc' hm', jX_scrape hc a b = some (r, hc') ∧ jM_scrape hm a b = some (r, hm') ∧ Rel hc' hm'
def so_thief (Rel : AH → AH → Prop) : Prop := ∀ hc hm, Rel hc hm → ∀ a : Int32, ∃ r hc' hm', jX_thief hc a = some (r, hc') ∧ jM_thief hm a = some (r, hm') ∧ Rel hc' hm'
def so_undo (Rel : AH → AH → Prop) : Prop := ∀ hc hm, Rel hc hm → ∃ r hc' hm', jX_undo hc = some (r, hc') ∧ jM_undo hm = some (r, hm') ∧ Rel hc' hm'
def so_image (Rel : AH → AH → Prop) : Prop := ∀ hc hm, Rel hc hm → ∃ r hc' hm', jX_image hc = some (r, hc') ∧ jM_image hm = some (r, hm') ∧ Rel hc' hm'
def so_back (Rel : AH → AH → Prop) : Prop := ∀ hc hm, Rel hc hm → ∀ a : Int32, ∃ r hc' hm', jX_back hc a = some (r, hc') ∧ jM_back hm a = some (r, hm') ∧ Rel hc' hm'
def so_led (Rel : AH → AH → Prop) : Prop := ∀ hc hm, Rel hc hm → ∀ a : Int32, ∃ c r hm' th, jX_bareCell hc a = some c ∧ jM_led hm a = some (r, hm') ∧ Rel hc hm' ∧ jM_thrown hm' = some th ∧ (c < 0 → th = 1) ∧ (0 ≤ c → th = 0 ∧ r = c)
def so_size (Rel : AH → AH → Prop) : Prop := ∀ hc hm, Rel hc hm → ∀ a : Int32, ∃ r hm', jX_size hc a = some r ∧ jM_size hm a = some (r, hm') ∧ Rel hc hm'
def so_trouble (Rel : AH → AH → Prop) : Prop := ∀ hc hm, Rel hc hm → ∃ r hm', jX_trouble hc = some r ∧ jM_trouble hm = some (r, hm') ∧ Rel hc hm'
/-- a relation of the two heaps that every call keeps, answering alike -/
def SOK (Rel : AH → AH → Prop) : Prop := so_feed Rel ∧ so_book Rel ∧ so_fault Rel ∧ so_where Rel ∧ so_shows Rel ∧ so_whose Rel ∧ so_was Rel ∧ so_scraped Rel ∧ so_deep Rel ∧ so_relief Rel ∧ so_light Rel ∧ so_area Rel ∧ so_share Rel ∧ so_old Rel ∧ so_changes Rel ∧ so_work Rel ∧ so_paint Rel ∧ so_judged Rel ∧ so_breaks Rel ∧ so_forged Rel ∧ so_left Rel ∧ so_before Rel ∧ so_untold Rel ∧ so_orders Rel ∧ so_placed Rel ∧ so_ahead Rel ∧ so_wanted Rel ∧ so_alike Rel ∧ so_best Rel ∧ so_need Rel ∧ so_step Rel ∧ so_reach Rel ∧ so_least Rel ∧ so_freed Rel ∧ so_begin Rel ∧ so_patch Rel ∧ so_dry Rel ∧ so_wipe Rel ∧ so_wet Rel ∧ so_wetJudged Rel ∧ so_scrape Rel ∧ so_thief Rel ∧ so_undo Rel ∧ so_image Rel ∧ so_back Rel ∧ so_led Rel ∧ so_size Rel ∧ so_trouble Rel
section Rules
variable {G : JG} {b L : Nat} {xs : Nat → Int32} {ao pc : Nat} {ls : List (Nat × Value)} {hc hm : AH} {ov : Nat → Int64} {cells slots : Nat}
theorem lg_cmp_self (x : Int64) : lg_cmp x x = 0 := by
  unfold lg_cmp
  simp [Int64.lt_irrefl]
theorem L_callLed {cv v1 : Int32} (hbc : jX_bareCell hc v1 = some cv) (hcs : cells + 1 ≤ 601024) (hss : slots + 6 ≤ 7293034) (hd : decode code pc = .ok (.invokestatic 210, 3)) (k : ∀ kv ov', LLQ G hc cv ao ov kv ov' → LSim G b L xs ao (pc + 3) ls [.int kv] hc hm ov' (cells + 1) (slots + 6)) : LSim G b L xs ao pc ls [.ref ao, .int v1, .ref (G.ad 0 0)] hc hm ov cells slots := by
  intro p e s m below meth c H locs la hat hfl hK hX hA hP0 hP1 hPo hS hl
  obtain ⟨hx, hb, hr, hml, hown, hts, hxs, hbl, hlk, hgv⟩ := hat
  have hst : G.l.stackTraces = false := by
    show (!G.l.flags.contains Jvm.noTraceFlag) = false
    rw [hfl]
    decide
  have hM1 := sL_led G hst hc v1 cv ao ov hbc hA.1 (fun k i hi => (hA.2.2.2.1 k i hi).2)
  have hjt : ∀ w ∈ JT, w.before #[Value.ref b] s = true := fun w hw => hts w (JT_sub hw)
  have hcw : vx_CSW room_1 s #[Value.ref b] RL 210 yL_led cL_led 4 (some .int) [(0, 9, 12, 13)] iL_ws iL_rm 1 6 3 := vx_cwSW 3 hjt (fun w hw => by
    have h1 : w = Cond.methodLink RL 210 yL_led ∨ w = Cond.static yL_led ∨ w = Cond.initialized RL ∨ w ∈ iL_ws := by
      rcases List.mem_append.mp hw with h | h
      · rcases List.mem_cons.mp h with h | h
        · exact Or.inl h
        · rcases List.mem_cons.mp h with h | h
          · exact Or.inr (Or.inl h)
          · rcases List.mem_cons.mp h with h | h
            · exact Or.inr (Or.inr (Or.inl h))
            · cases h
      · exact Or.inr (Or.inr (Or.inr h))
    rcases h1 with rfl | rfl | rfl | h
    · exact JT_good _ wd_1145
    · exact JT_good _ wd_1146
    · exact JT_good _ wd_104
    · rcases List.mem_cons.mp h with rfl | h
      · exact JT_good _ wd_1147
      · exact JT_good _ h) rfl rfl rfl (by decide +kernel) ⟨Nat.le_of_ble_eq_true rfl, Nat.le_of_ble_eq_true rfl⟩
  have hAO : ∀ q, AO 0 G.ad q → s.heap.size ≤ q := fun q ⟨k, i, hi, hq⟩ => by rw [hq]; exact (hA.2.2.2.1 k i hi).1
  have hA2 : ∀ q, LA2 G ao q → s.heap.size ≤ q := fun q h => by
    rcases h with h | h
    · exact hAO q h
    · rw [h]; exact hA.2.2.2.2.2
  have hrun := vx_runSW (p := p) (l := G.l) (e := e) (below := below) (meth := meth) (locs := locs) (cells := cells) (slots := slots) (rest := []) (As := [.ref (G.ad 0 0), .int v1, .ref ao]) (g := F0 m pc la [.ref ao, .int v1, .ref (G.ad 0 0)]) (H := H) (cc := code) (nL := 7) ⟨hx, hb, hml, hown, hjt⟩ hM1 hcw
    ⟨LLPc_blind G hc v1 ao ov, fun U hU hW => ⟨rfl, by rw [hU]; exact hP0, by rw [hU]; exact hPo, va_K.moved hW.alike hK, hX.next (by decide) hAO hW hU hS, hX.2.2.2.2.1.next hW, ZL.next hW.alike hU hS.2.1 hA2 hX.2.2.2.2.2⟩⟩ rfl rfl hl.1 rfl (lv_room (le8 rfl)) hd ⟨hcs, hss⟩
  intro T hT X
  obtain ⟨v, st₀, t, T', L', h0, X', hL, e1, e2, ⟨⟨kv, ov', hv, hq, hp, hpo⟩, hz, hk⟩, st9⟩ := hrun T hT X
  cases hv
  rw [h0] at hz hk
  obtain ⟨t2, a1, b1⟩ := k kv ov' hq p e s m below meth c T'.heap (locs ++ L') la ⟨hx, hb, hr, hml, hown, hts, hxs, hbl, hlk, hgv⟩ hfl hK hX hA (by rw [e1]; exact hp)
    (PW_kept (F := LA2 G ao) hP1 (fun q h1 h2 => by rw [e1]; exact hk q h1 h2) (fun k i hi h => by
      rcases h with ⟨k', i', hi', hq'⟩ | h
      · exact hA.2.2.1 k' i' k i hi' hi hq'.symm
      · exact (hA.2.2.2.2.1 k i hi).2 h)) (by rw [e1]; exact hpo)
    ⟨Nat.le_trans hS.1 (by rw [e1]; exact hz), fun q h1 h2 => by rw [e1, hk q (Nat.lt_of_lt_of_le h1 hS.1) (fun z => h2 (hA2 q z))]; exact hS.2.1 q h1 h2, fun q hq => by
      rcases List.mem_append.mp hq with h | h
      · exact hS.2.2 q h
      · exact hA2 _ (hL q h)⟩ hl T' rfl X'
  exact ⟨t2, st9 t2 a1, b1⟩
end Rules
set_option maxRecDepth 20000 in
set_option maxHeartbeats 2000000 in
theorem cs_feed (G : JG) (b L : Nat) (xs : Nat → Int32) (ao k : Nat) (hL : L ≤ 3072) (hk : 6 * k + 6 ≤ L) (Rel : AH → AH → Prop) (hS : so_feed Rel) (hnext : ∀ (hc hm : AH) (ov : Nat → Int64) (cells slots : Nat), Rel hc hm → cells ≤ 105 + (k + 1) → slots ≤ 42664 + 6 * (k + 1) → LSim G b L xs ao 1737 [(0, .ref b), (1, .ref (G.ad 0 0)), (2, .ref (G.ad 32 0)), (3, .ref ao), (4, .int (nI (6 * k)))] [] hc hm ov cells slots) (hc hm : AH) (ov : Nat → Int64) (cells slots : Nat) (hR : Rel hc hm) (hcs : cells ≤ 105 + k) (hss : slots ≤ 42664 + 6 * k) : LSim G b L xs ao 248 [(0, .ref b), (1, .ref (G.ad 0 0)), (2, .ref (G.ad 32 0)), (3, .ref ao), (4, .int (nI (6 * k)))] [] hc hm ov cells slots := by
  obtain ⟨r, hc', hm', h1, h2, hR'⟩ := hS hc hm hR (xs (6 * k + 1)) (xs (6 * k + 2)) (xs (6 * k + 3)) (xs (6 * k + 4)) (xs (6 * k + 5))
  refine L_aload_n dL_law_248 rfl 1 rfl ?_
  refine L_aload_n dL_law_249 rfl 0 rfl ?_
  refine L_iload dL_law_250 4 rfl ?_
  refine L_iconst (v := 1) dL_law_252 rfl ?_
  refine L_iadd dL_law_253 ?_
  refine L_sld (j := 6 * k + 1) (nI_add (6 * k) 1) (by omega) hL dL_law_254 ?_
  refine L_aload_n dL_law_255 rfl 0 rfl ?_
  refine L_iload dL_law_256 4 rfl ?_
  refine L_iconst (v := 2) dL_law_258 rfl ?_
  refine L_iadd dL_law_259 ?_
  refine L_sld (j := 6 * k + 2) (nI_add (6 * k) 2) (by omega) hL dL_law_260 ?_
  refine L_aload_n dL_law_261 rfl 0 rfl ?_
  refine L_iload dL_law_262 4 rfl ?_
  refine L_iconst (v := 3) dL_law_264 rfl ?_
  refine L_iadd dL_law_265 ?_
  refine L_sld (j := 6 * k + 3) (nI_add (6 * k) 3) (by omega) hL dL_law_266 ?_
  refine L_aload_n dL_law_267 rfl 0 rfl ?_
  refine L_iload dL_law_268 4 rfl ?_
  refine L_iconst (v := 4) dL_law_270 rfl ?_
  refine L_iadd dL_law_271 ?_
  refine L_sld (j := 6 * k + 4) (nI_add (6 * k) 4) (by omega) hL dL_law_272 ?_
  refine L_aload_n dL_law_273 rfl 0 rfl ?_
  refine L_iload dL_law_274 4 rfl ?_
  refine L_iconst (v := 5) dL_law_276 rfl ?_
  refine L_iadd dL_law_277 ?_
  refine L_sld (j := 6 * k + 5) (nI_add (6 * k) 5) (by omega) hL dL_law_278 ?_
  refine L_call0 (As := [.int (xs (6 * k + 1)), .int (xs (6 * k + 2)), .int (xs (6 * k + 3)), .int (xs (6 * k + 4)), .int (xs (6 * k + 5))]) (rest := []) h1 (sX_feed G hc (xs (6 * k + 1)) (xs (6 * k + 2)) (xs (6 * k + 3)) (xs (6 * k + 4)) (xs (6 * k + 5))) ck_X8_feed lk_L_19 ⟨rfl, rfl, Nat.le_of_ble_eq_true rfl, Nat.le_of_ble_eq_true rfl⟩ rfl rfl rfl rfl rfl (by omega) (by omega) dL_law_279 ?_
  show LSim G b L xs ao 282 _ [.int r] hc' hm ov cells slots
  refine L_aload_n dL_law_282 rfl 2 rfl ?_
  refine L_aload_n dL_law_283 rfl 0 rfl ?_
  refine L_iload dL_law_284 4 rfl ?_
  refine L_iconst (v := 1) dL_law_286 rfl ?_
  refine L_iadd dL_law_287 ?_
  refine L_sld (j := 6 * k + 1) (nI_add (6 * k) 1) (by omega) hL dL_law_288 ?_
  refine L_aload_n dL_law_289 rfl 0 rfl ?_
  refine L_iload dL_law_290 4 rfl ?_
  refine L_iconst (v := 2) dL_law_292 rfl ?_
  refine L_iadd dL_law_293 ?_
  refine L_sld (j := 6 * k + 2) (nI_add (6 * k) 2) (by omega) hL dL_law_294 ?_
  refine L_aload_n dL_law_295 rfl 0 rfl ?_
  refine L_iload dL_law_296 4 rfl ?_
  refine L_iconst (v := 3) dL_law_298 rfl ?_
  refine L_iadd dL_law_299 ?_
  refine L_sld (j := 6 * k + 3) (nI_add (6 * k) 3) (by omega) hL dL_law_300 ?_
  refine L_aload_n dL_law_301 rfl 0 rfl ?_
  refine L_iload dL_law_302 4 rfl ?_
  refine L_iconst (v := 4) dL_law_304 rfl ?_
  refine L_iadd dL_law_305 ?_
  refine L_sld (j := 6 * k + 4) (nI_add (6 * k) 4) (by omega) hL dL_law_306 ?_
  refine L_aload_n dL_law_307 rfl 0 rfl ?_
  refine L_iload dL_law_308 4 rfl ?_
  refine L_iconst (v := 5) dL_law_310 rfl ?_
  refine L_iadd dL_law_311 ?_
  refine L_sld (j := 6 * k + 5) (nI_add (6 * k) 5) (by omega) hL dL_law_312 ?_
  refine L_call1 (As := [.int (xs (6 * k + 1)), .int (xs (6 * k + 2)), .int (xs (6 * k + 3)), .int (xs (6 * k + 4)), .int (xs (6 * k + 5))]) (rest := [.int r]) h2 (sM_feed G hm (xs (6 * k + 1)) (xs (6 * k + 2)) (xs (6 * k + 3)) (xs (6 * k + 4)) (xs (6 * k + 5))) ck_X9_feed lk_L_23 ⟨rfl, rfl, Nat.le_of_ble_eq_true rfl, Nat.le_of_ble_eq_true rfl⟩ rfl rfl rfl rfl rfl (by omega) (by omega) dL_law_313 ?_
  show LSim G b L xs ao 316 _ [.int r, .int r] hc' hm' ov cells slots
  refine L_icmp_eq_t (t := 1737) dL_law_316 rfl rfl ?_
  exact hnext hc' hm' ov cells slots hR' (by omega) (by omega)
set_option maxRecDepth 20000 in
set_option maxHeartbeats 2000000 in
theorem cs_book (G : JG) (b L : Nat) (xs : Nat → Int32) (ao k : Nat) (hL : L ≤ 3072) (hk : 6 * k + 6 ≤ L) (Rel : AH → AH → Prop) (hS : so_book Rel) (hnext : ∀ (hc hm : AH) (ov : Nat → Int64) (cells slots : Nat), Rel hc hm → cells ≤ 105 + (k + 1) → slots ≤ 42664 + 6 * (k + 1) → LSim G b L xs ao 1737 [(0, .ref b), (1, .ref (G.ad 0 0)), (2, .ref (G.ad 32 0)), (3, .ref ao), (4, .int (nI (6 * k)))] [] hc hm ov cells slots) (hc hm : AH) (ov : Nat → Int64) (cells slots : Nat) (hR : Rel hc hm) (hcs : cells ≤ 105 + k) (hss : slots ≤ 42664 + 6 * k) : LSim G b L xs ao 321 [(0, .ref b), (1, .ref (G.ad 0 0)), (2, .ref (G.ad 32 0)), (3, .ref ao), (4, .int (nI (6 * k)))] [] hc hm ov cells slots := by
  obtain ⟨r, hc', hm', h1, h2, hR'⟩ := hS hc hm hR (xs (6 * k + 1))
  refine L_aload_n dL_law_321 rfl 1 rfl ?_
  refine L_aload_n dL_law_322 rfl 0 rfl ?_
  refine L_iload dL_law_323 4 rfl ?_
  refine L_iconst (v := 1) dL_law_325 rfl ?_
  refine L_iadd dL_law_326 ?_
  refine L_sld (j := 6 * k + 1) (nI_add (6 * k) 1) (by omega) hL dL_law_327 ?_
  refine L_call0 (As := [.int (xs (6 * k + 1))]) (rest := []) h1 (sX_book G hc (xs (6 * k + 1))) ck_X8_book lk_L_24 ⟨rfl, rfl, Nat.le_of_ble_eq_true rfl, Nat.le_of_ble_eq_true rfl⟩ rfl rfl rfl rfl rfl (by omega) (by omega) dL_law_328 ?_
  show LSim G b L xs ao 331 _ [.int r] hc' hm ov cells slots
  refine L_aload_n dL_law_331 rfl 2 rfl ?_
  refine L_aload_n dL_law_332 rfl 0 rfl ?_
  refine L_iload dL_law_333 4 rfl ?_
  refine L_iconst (v := 1) dL_law_335 rfl ?_
  refine L_iadd dL_law_336 ?_
  refine L_sld (j := 6 * k + 1) (nI_add (6 * k) 1) (by omega) hL dL_law_337 ?_
  refine L_call1 (As := [.int (xs (6 * k + 1))]) (rest := [.int r]) h2 (sM_book G hm (xs (6 * k + 1))) ck_X9_book lk_L_27 ⟨rfl, rfl, Nat.le_of_ble_eq_true rfl, Nat.le_of_ble_eq_true rfl⟩ rfl rfl rfl rfl rfl (by omega) (by omega) dL_law_338 ?_
  show LSim G b L xs ao 341 _ [.int r, .int r] hc' hm' ov cells slots
  refine L_icmp_eq_t (t := 1737) dL_law_341 rfl rfl ?_
  exact hnext hc' hm' ov cells slots hR' (by omega) (by omega)
set_option maxRecDepth 20000 in
set_option maxHeartbeats 2000000 in
theorem cs_fault (G : JG) (b L : Nat) (xs : Nat → Int32) (ao k : Nat) (hL : L ≤ 3072) (hk : 6 * k + 6 ≤ L) (Rel : AH → AH → Prop) (hS : so_fault Rel) (hnext : ∀ (hc hm : AH) (ov : Nat → Int64) (cells slots : Nat), Rel hc hm → cells ≤ 105 + (k + 1) → slots ≤ 42664 + 6 * (k + 1) → LSim G b L xs ao 1737 [(0, .ref b), (1, .ref (G.ad 0 0)), (2, .ref (G.ad 32 0)), (3, .ref ao), (4, .int (nI (6 * k)))] [] hc hm ov cells slots) (hc hm : AH) (ov : Nat → Int64) (cells slots : Nat) (hR : Rel hc hm) (hcs : cells ≤ 105 + k) (hss : slots ≤ 42664 + 6 * k) : LSim G b L xs ao 346 [(0, .ref b), (1, .ref (G.ad 0 0)), (2, .ref (G.ad 32 0)), (3, .ref ao), (4, .int (nI (6 * k)))] [] hc hm ov cells slots := by
  obtain ⟨r, hm', h1, h2, hR'⟩ := hS hc hm hR 
  refine L_aload_n dL_law_346 rfl 1 rfl ?_
  refine L_call0 (As := []) (rest := []) h1 (sX_fault G hc) ck_X8_fault lk_L_28 ⟨rfl, rfl, Nat.le_of_ble_eq_true rfl, Nat.le_of_ble_eq_true rfl⟩ rfl rfl rfl rfl rfl (by omega) (by omega) dL_law_347 ?_
  show LSim G b L xs ao 350 _ [.int r] hc hm ov cells slots
  refine L_aload_n dL_law_350 rfl 2 rfl ?_
  refine L_call1 (As := []) (rest := [.int r]) h2 (sM_fault G hm) ck_X9_fault lk_L_32 ⟨rfl, rfl, Nat.le_of_ble_eq_true rfl, Nat.le_of_ble_eq_true rfl⟩ rfl rfl rfl rfl rfl (by omega) (by omega) dL_law_351 ?_
  show LSim G b L xs ao 354 _ [.int r, .int r] hc hm' ov cells slots
  refine L_icmp_eq_t (t := 1737) dL_law_354 rfl rfl ?_
  exact hnext hc hm' ov cells slots hR' (by omega) (by omega)
set_option maxRecDepth 20000 in
set_option maxHeartbeats 2000000 in
theorem cs_where (G : JG) (b L : Nat) (xs : Nat → Int32) (ao k : Nat) (hL : L ≤ 3072) (hk : 6 * k + 6 ≤ L) (Rel : AH → AH → Prop) (hS : so_where Rel) (hnext : ∀ (hc hm : AH) (ov : Nat → Int64) (cells slots : Nat), Rel hc hm → cells ≤ 105 + (k + 1) → slots ≤ 42664 + 6 * (k + 1) → LSim G b L xs ao 1737 [(0, .ref b), (1, .ref (G.ad 0 0)), (2, .ref (G.ad 32 0)), (3, .ref ao), (4, .int (nI (6 * k)))] [] hc hm ov cells slots) (hc hm : AH) (ov : Nat → Int64) (cells slots : Nat) (hR : Rel hc hm) (hcs : cells ≤ 105 + k) (hss : slots ≤ 42664 + 6 * k) : LSim G b L xs ao 359 [(0, .ref b), (1, .ref (G.ad 0 0)), (2, .ref (G.ad 32 0)), (3, .ref ao), (4, .int (nI (6 * k)))] [] hc hm ov cells slots := by
  obtain ⟨r, hm', h1, h2, hR'⟩ := hS hc hm hR 
  refine L_aload_n dL_law_359 rfl 1 rfl ?_
  refine L_call0 (As := []) (rest := []) h1 (sX_where G hc) ck_X8_where lk_L_33 ⟨rfl, rfl, Nat.le_of_ble_eq_true rfl, Nat.le_of_ble_eq_true rfl⟩ rfl rfl rfl rfl rfl (by omega) (by omega) dL_law_360 ?_
  show LSim G b L xs ao 363 _ [.int r] hc hm ov cells slots
  refine L_aload_n dL_law_363 rfl 2 rfl ?_
  refine L_call1 (As := []) (rest := [.int r]) h2 (sM_where G hm) ck_X9_where lk_L_36 ⟨rfl, rfl, Nat.le_of_ble_eq_true rfl, Nat.le_of_ble_eq_true rfl⟩ rfl rfl rfl rfl rfl (by omega) (by omega) dL_law_364 ?_
  show LSim G b L xs ao 367 _ [.int r, .int r] hc hm' ov cells slots
  refine L_icmp_eq_t (t := 1737) dL_law_367 rfl rfl ?_
  exact hnext hc hm' ov cells slots hR' (by omega) (by omega)
set_option maxRecDepth 20000 in
set_option maxHeartbeats 2000000 in
theorem cs_shows (G : JG) (b L : Nat) (xs : Nat → Int32) (ao k : Nat) (hL : L ≤ 3072) (hk : 6 * k + 6 ≤ L) (Rel : AH → AH → Prop) (hS : so_shows Rel) (hnext : ∀ (hc hm : AH) (ov : Nat → Int64) (cells slots : Nat), Rel hc hm → cells ≤ 105 + (k + 1) → slots ≤ 42664 + 6 * (k + 1) → LSim G b L xs ao 1737 [(0, .ref b), (1, .ref (G.ad 0 0)), (2, .ref (G.ad 32 0)), (3, .ref ao), (4, .int (nI (6 * k)))] [] hc hm ov cells slots) (hc hm : AH) (ov : Nat → Int64) (cells slots : Nat) (hR : Rel hc hm) (hcs : cells ≤ 105 + k) (hss : slots ≤ 42664 + 6 * k) : LSim G b L xs ao 372 [(0, .ref b), (1, .ref (G.ad 0 0)), (2, .ref (G.ad 32 0)), (3, .ref ao), (4, .int (nI (6 * k)))] [] hc hm ov cells slots := by
  obtain ⟨r, hc', hm', h1, h2, hR'⟩ := hS hc hm hR (xs (6 * k + 1)) (xs (6 * k + 2))
  refine L_aload_n dL_law_372 rfl 1 rfl ?_
  refine L_aload_n dL_law_373 rfl 0 rfl ?_
  refine L_iload dL_law_374 4 rfl ?_
  refine L_iconst (v := 1) dL_law_376 rfl ?_
  refine L_iadd dL_law_377 ?_
  refine L_sld (j := 6 * k + 1) (nI_add (6 * k) 1) (by omega) hL dL_law_378 ?_
  refine L_aload_n dL_law_379 rfl 0 rfl ?_
  refine L_iload dL_law_380 4 rfl ?_
  refine L_iconst (v := 2) dL_law_382 rfl ?_
  refine L_iadd dL_law_383 ?_
  refine L_sld (j := 6 * k + 2) (nI_add (6 * k) 2) (by omega) hL dL_law_384 ?_
  refine L_call0 (As := [.int (xs (6 * k + 1)), .int (xs (6 * k + 2))]) (rest := []) h1 (sX_shows G hc (xs (6 * k + 1)) (xs (6 * k + 2))) ck_X8_shows lk_L_37 ⟨rfl, rfl, Nat.le_of_ble_eq_true rfl, Nat.le_of_ble_eq_true rfl⟩ rfl rfl rfl rfl rfl (by omega) (by omega) dL_law_385 ?_
  show LSim G b L xs ao 388 _ [.int r] hc' hm ov cells slots
  refine L_aload_n dL_law_388 rfl 2 rfl ?_
  refine L_aload_n dL_law_389 rfl 0 rfl ?_
  refine L_iload dL_law_390 4 rfl ?_
  refine L_iconst (v := 1) dL_law_392 rfl ?_
  refine L_iadd dL_law_393 ?_
  refine L_sld (j := 6 * k + 1) (nI_add (6 * k) 1) (by omega) hL dL_law_394 ?_
  refine L_aload_n dL_law_395 rfl 0 rfl ?_
  refine L_iload dL_law_396 4 rfl ?_
  refine L_iconst (v := 2) dL_law_398 rfl ?_
  refine L_iadd dL_law_399 ?_
  refine L_sld (j := 6 * k + 2) (nI_add (6 * k) 2) (by omega) hL dL_law_400 ?_
  refine L_call1 (As := [.int (xs (6 * k + 1)), .int (xs (6 * k + 2))]) (rest := [.int r]) h2 (sM_shows G hm (xs (6 * k + 1)) (xs (6 * k + 2))) ck_X9_shows lk_L_41 ⟨rfl, rfl, Nat.le_of_ble_eq_true rfl, Nat.le_of_ble_eq_true rfl⟩ rfl rfl rfl rfl rfl (by omega) (by omega) dL_law_401 ?_
  show LSim G b L xs ao 404 _ [.int r, .int r] hc' hm' ov cells slots
  refine L_icmp_eq_t (t := 1737) dL_law_404 rfl rfl ?_
  exact hnext hc' hm' ov cells slots hR' (by omega) (by omega)
set_option maxRecDepth 20000 in
set_option maxHeartbeats 2000000 in
theorem cs_whose (G : JG) (b L : Nat) (xs : Nat → Int32) (ao k : Nat) (hL : L ≤ 3072) (hk : 6 * k + 6 ≤ L) (Rel : AH → AH → Prop) (hS : so_whose Rel) (hnext : ∀ (hc hm : AH) (ov : Nat → Int64) (cells slots : Nat), Rel hc hm → cells ≤ 105 + (k + 1) → slots ≤ 42664 + 6 * (k + 1) → LSim G b L xs ao 1737 [(0, .ref b), (1, .ref (G.ad 0 0)), (2, .ref (G.ad 32 0)), (3, .ref ao), (4, .int (nI (6 * k)))] [] hc hm ov cells slots) (hc hm : AH) (ov : Nat → Int64) (cells slots : Nat) (hR : Rel hc hm) (hcs : cells ≤ 105 + k) (hss : slots ≤ 42664 + 6 * k) : LSim G b L xs ao 409 [(0, .ref b), (1, .ref (G.ad 0 0)), (2, .ref (G.ad 32 0)), (3, .ref ao), (4, .int (nI (6 * k)))] [] hc hm ov cells slots := by
  obtain ⟨r, hc', hm', h1, h2, hR'⟩ := hS hc hm hR (xs (6 * k + 1)) (xs (6 * k + 2))
  refine L_aload_n dL_law_409 rfl 1 rfl ?_
  refine L_aload_n dL_law_410 rfl 0 rfl ?_
  refine L_iload dL_law_411 4 rfl ?_
  refine L_iconst (v := 1) dL_law_413 rfl ?_
  refine L_iadd dL_law_414 ?_
  refine L_sld (j := 6 * k + 1) (nI_add (6 * k) 1) (by omega) hL dL_law_415 ?_
  refine L_aload_n dL_law_416 rfl 0 rfl ?_
  refine L_iload dL_law_417 4 rfl ?_
  refine L_iconst (v := 2) dL_law_419 rfl ?_
  refine L_iadd dL_law_420 ?_
  refine L_sld (j := 6 * k + 2) (nI_add (6 * k) 2) (by omega) hL dL_law_421 ?_
  refine L_call0 (As := [.int (xs (6 * k + 1)), .int (xs (6 * k + 2))]) (rest := []) h1 (sX_whose G hc (xs (6 * k + 1)) (xs (6 * k + 2))) ck_X8_whose lk_L_42 ⟨rfl, rfl, Nat.le_of_ble_eq_true rfl, Nat.le_of_ble_eq_true rfl⟩ rfl rfl rfl rfl rfl (by omega) (by omega) dL_law_422 ?_
  show LSim G b L xs ao 425 _ [.int r] hc' hm ov cells slots
  refine L_aload_n dL_law_425 rfl 2 rfl ?_
  refine L_aload_n dL_law_426 rfl 0 rfl ?_
  refine L_iload dL_law_427 4 rfl ?_
  refine L_iconst (v := 1) dL_law_429 rfl ?_
  refine L_iadd dL_law_430 ?_
  refine L_sld (j := 6 * k + 1) (nI_add (6 * k) 1) (by omega) hL dL_law_431 ?_
  refine L_aload_n dL_law_432 rfl 0 rfl ?_
  refine L_iload dL_law_433 4 rfl ?_
  refine L_iconst (v := 2) dL_law_435 rfl ?_
  refine L_iadd dL_law_436 ?_
  refine L_sld (j := 6 * k + 2) (nI_add (6 * k) 2) (by omega) hL dL_law_437 ?_
  refine L_call1 (As := [.int (xs (6 * k + 1)), .int (xs (6 * k + 2))]) (rest := [.int r]) h2 (sM_whose G hm (xs (6 * k + 1)) (xs (6 * k + 2))) ck_X9_whose lk_L_45 ⟨rfl, rfl, Nat.le_of_ble_eq_true rfl, Nat.le_of_ble_eq_true rfl⟩ rfl rfl rfl rfl rfl (by omega) (by omega) dL_law_438 ?_
  show LSim G b L xs ao 441 _ [.int r, .int r] hc' hm' ov cells slots
  refine L_icmp_eq_t (t := 1737) dL_law_441 rfl rfl ?_
  exact hnext hc' hm' ov cells slots hR' (by omega) (by omega)
set_option maxRecDepth 20000 in
set_option maxHeartbeats 2000000 in
theorem cs_was (G : JG) (b L : Nat) (xs : Nat → Int32) (ao k : Nat) (hL : L ≤ 3072) (hk : 6 * k + 6 ≤ L) (Rel : AH → AH → Prop) (hS : so_was Rel) (hnext : ∀ (hc hm : AH) (ov : Nat → Int64) (cells slots : Nat), Rel hc hm → cells ≤ 105 + (k + 1) → slots ≤ 42664 + 6 * (k + 1) → LSim G b L xs ao 1737 [(0, .ref b), (1, .ref (G.ad 0 0)), (2, .ref (G.ad 32 0)), (3, .ref ao), (4, .int (nI (6 * k)))] [] hc hm ov cells slots) (hc hm : AH) (ov : Nat → Int64) (cells slots : Nat) (hR : Rel hc hm) (hcs : cells ≤ 105 + k) (hss : slots ≤ 42664 + 6 * k) : LSim G b L xs ao 446 [(0, .ref b), (1, .ref (G.ad 0 0)), (2, .ref (G.ad 32 0)), (3, .ref ao), (4, .int (nI (6 * k)))] [] hc hm ov cells slots := by
  obtain ⟨r, hc', hm', h1, h2, hR'⟩ := hS hc hm hR (xs (6 * k + 1)) (xs (6 * k + 2)) (xs (6 * k + 3))
  refine L_aload_n dL_law_446 rfl 1 rfl ?_
  refine L_aload_n dL_law_447 rfl 0 rfl ?_
  refine L_iload dL_law_448 4 rfl ?_
  refine L_iconst (v := 1) dL_law_450 rfl ?_
  refine L_iadd dL_law_451 ?_
  refine L_sld (j := 6 * k + 1) (nI_add (6 * k) 1) (by omega) hL dL_law_452 ?_
  refine L_aload_n dL_law_453 rfl 0 rfl ?_
  refine L_iload dL_law_454 4 rfl ?_
  refine L_iconst (v := 2) dL_law_456 rfl ?_
  refine L_iadd dL_law_457 ?_
  refine L_sld (j := 6 * k + 2) (nI_add (6 * k) 2) (by omega) hL dL_law_458 ?_
  refine L_aload_n dL_law_459 rfl 0 rfl ?_
  refine L_iload dL_law_460 4 rfl ?_
  refine L_iconst (v := 3) dL_law_462 rfl ?_
  refine L_iadd dL_law_463 ?_
  refine L_sld (j := 6 * k + 3) (nI_add (6 * k) 3) (by omega) hL dL_law_464 ?_
  refine L_call0 (As := [.int (xs (6 * k + 1)), .int (xs (6 * k + 2)), .int (xs (6 * k + 3))]) (rest := []) h1 (sX_was G hc (xs (6 * k + 1)) (xs (6 * k + 2)) (xs (6 * k + 3))) ck_X8_was lk_L_46 ⟨rfl, rfl, Nat.le_of_ble_eq_true rfl, Nat.le_of_ble_eq_true rfl⟩ rfl rfl rfl rfl rfl (by omega) (by omega) dL_law_465 ?_
  show LSim G b L xs ao 468 _ [.int r] hc' hm ov cells slots
  refine L_aload_n dL_law_468 rfl 2 rfl ?_
  refine L_aload_n dL_law_469 rfl 0 rfl ?_
  refine L_iload dL_law_470 4 rfl ?_
  refine L_iconst (v := 1) dL_law_472 rfl ?_
  refine L_iadd dL_law_473 ?_
  refine L_sld (j := 6 * k + 1) (nI_add (6 * k) 1) (by omega) hL dL_law_474 ?_
  refine L_aload_n dL_law_475 rfl 0 rfl ?_
  refine L_iload dL_law_476 4 rfl ?_
  refine L_iconst (v := 2) dL_law_478 rfl ?_
  refine L_iadd dL_law_479 ?_
  refine L_sld (j := 6 * k + 2) (nI_add (6 * k) 2) (by omega) hL dL_law_480 ?_
  refine L_aload_n dL_law_481 rfl 0 rfl ?_
  refine L_iload dL_law_482 4 rfl ?_
  refine L_iconst (v := 3) dL_law_484 rfl ?_
  refine L_iadd dL_law_485 ?_
  refine L_sld (j := 6 * k + 3) (nI_add (6 * k) 3) (by omega) hL dL_law_486 ?_
  refine L_call1 (As := [.int (xs (6 * k + 1)), .int (xs (6 * k + 2)), .int (xs (6 * k + 3))]) (rest := [.int r]) h2 (sM_was G hm (xs (6 * k + 1)) (xs (6 * k + 2)) (xs (6 * k + 3))) ck_X9_was lk_L_50 ⟨rfl, rfl, Nat.le_of_ble_eq_true rfl, Nat.le_of_ble_eq_true rfl⟩ rfl rfl rfl rfl rfl (by omega) (by omega) dL_law_487 ?_
  show LSim G b L xs ao 490 _ [.int r, .int r] hc' hm' ov cells slots
  refine L_icmp_eq_t (t := 1737) dL_law_490 rfl rfl ?_
  exact hnext hc' hm' ov cells slots hR' (by omega) (by omega)
set_option maxRecDepth 20000 in
set_option maxHeartbeats 2000000 in
theorem cs_scraped (G : JG) (b L : Nat) (xs : Nat → Int32) (ao k : Nat) (hL : L ≤ 3072) (hk : 6 * k + 6 ≤ L) (Rel : AH → AH → Prop) (hS : so_scraped Rel) (hnext : ∀ (hc hm : AH) (ov : Nat → Int64) (cells slots : Nat), Rel hc hm → cells ≤ 105 + (k + 1) → slots ≤ 42664 + 6 * (k + 1) → LSim G b L xs ao 1737 [(0, .ref b), (1, .ref (G.ad 0 0)), (2, .ref (G.ad 32 0)), (3, .ref ao), (4, .int (nI (6 * k)))] [] hc hm ov cells slots) (hc hm : AH) (ov : Nat → Int64) (cells slots : Nat) (hR : Rel hc hm) (hcs : cells ≤ 105 + k) (hss : slots ≤ 42664 + 6 * k) : LSim G b L xs ao 495 [(0, .ref b), (1, .ref (G.ad 0 0)), (2, .ref (G.ad 32 0)), (3, .ref ao), (4, .int (nI (6 * k)))] [] hc hm ov cells slots := by
  obtain ⟨r, hc', hm', h1, h2, hR'⟩ := hS hc hm hR (xs (6 * k + 1)) (xs (6 * k + 2)) (xs (6 * k + 3))
  refine L_aload_n dL_law_495 rfl 1 rfl ?_
  refine L_aload_n dL_law_496 rfl 0 rfl ?_
  refine L_iload dL_law_497 4 rfl ?_
  refine L_iconst (v := 1) dL_law_499 rfl ?_
  refine L_iadd dL_law_500 ?_
  refine L_sld (j := 6 * k + 1) (nI_add (6 * k) 1) (by omega) hL dL_law_501 ?_
  refine L_aload_n dL_law_502 rfl 0 rfl ?_
  refine L_iload dL_law_503 4 rfl ?_
  refine L_iconst (v := 2) dL_law_505 rfl ?_
  refine L_iadd dL_law_506 ?_
  refine L_sld (j := 6 * k + 2) (nI_add (6 * k) 2) (by omega) hL dL_law_507 ?_
  refine L_aload_n dL_law_508 rfl 0 rfl ?_
  refine L_iload dL_law_509 4 rfl ?_
  refine L_iconst (v := 3) dL_law_511 rfl ?_
  refine L_iadd dL_law_512 ?_
  refine L_sld (j := 6 * k + 3) (nI_add (6 * k) 3) (by omega) hL dL_law_513 ?_
  refine L_call0 (As := [.int (xs (6 * k + 1)), .int (xs (6 * k + 2)), .int (xs (6 * k + 3))]) (rest := []) h1 (sX_scraped G hc (xs (6 * k + 1)) (xs (6 * k + 2)) (xs (6 * k + 3))) ck_X8_scraped lk_L_51 ⟨rfl, rfl, Nat.le_of_ble_eq_true rfl, Nat.le_of_ble_eq_true rfl⟩ rfl rfl rfl rfl rfl (by omega) (by omega) dL_law_514 ?_
  show LSim G b L xs ao 517 _ [.int r] hc' hm ov cells slots
  refine L_aload_n dL_law_517 rfl 2 rfl ?_
  refine L_aload_n dL_law_518 rfl 0 rfl ?_
  refine L_iload dL_law_519 4 rfl ?_
  refine L_iconst (v := 1) dL_law_521 rfl ?_
  refine L_iadd dL_law_522 ?_
  refine L_sld (j := 6 * k + 1) (nI_add (6 * k) 1) (by omega) hL dL_law_523 ?_
  refine L_aload_n dL_law_524 rfl 0 rfl ?_
  refine L_iload dL_law_525 4 rfl ?_
  refine L_iconst (v := 2) dL_law_527 rfl ?_
  refine L_iadd dL_law_528 ?_
  refine L_sld (j := 6 * k + 2) (nI_add (6 * k) 2) (by omega) hL dL_law_529 ?_
  refine L_aload_n dL_law_530 rfl 0 rfl ?_
  refine L_iload dL_law_531 4 rfl ?_
  refine L_iconst (v := 3) dL_law_533 rfl ?_
  refine L_iadd dL_law_534 ?_
  refine L_sld (j := 6 * k + 3) (nI_add (6 * k) 3) (by omega) hL dL_law_535 ?_
  refine L_call1 (As := [.int (xs (6 * k + 1)), .int (xs (6 * k + 2)), .int (xs (6 * k + 3))]) (rest := [.int r]) h2 (sM_scraped G hm (xs (6 * k + 1)) (xs (6 * k + 2)) (xs (6 * k + 3))) ck_X9_scraped lk_L_54 ⟨rfl, rfl, Nat.le_of_ble_eq_true rfl, Nat.le_of_ble_eq_true rfl⟩ rfl rfl rfl rfl rfl (by omega) (by omega) dL_law_536 ?_
  show LSim G b L xs ao 539 _ [.int r, .int r] hc' hm' ov cells slots
  refine L_icmp_eq_t (t := 1737) dL_law_539 rfl rfl ?_
  exact hnext hc' hm' ov cells slots hR' (by omega) (by omega)
set_option maxRecDepth 20000 in
set_option maxHeartbeats 2000000 in
theorem cs_deep (G : JG) (b L : Nat) (xs : Nat → Int32) (ao k : Nat) (hL : L ≤ 3072) (hk : 6 * k + 6 ≤ L) (Rel : AH → AH → Prop) (hS : so_deep Rel) (hnext : ∀ (hc hm : AH) (ov : Nat → Int64) (cells slots : Nat), Rel hc hm → cells ≤ 105 + (k + 1) → slots ≤ 42664 + 6 * (k + 1) → LSim G b L xs ao 1737 [(0, .ref b), (1, .ref (G.ad 0 0)), (2, .ref (G.ad 32 0)), (3, .ref ao), (4, .int (nI (6 * k)))] [] hc hm ov cells slots) (hc hm : AH) (ov : Nat → Int64) (cells slots : Nat) (hR : Rel hc hm) (hcs : cells ≤ 105 + k) (hss : slots ≤ 42664 + 6 * k) : LSim G b L xs ao 544 [(0, .ref b), (1, .ref (G.ad 0 0)), (2, .ref (G.ad 32 0)), (3, .ref ao), (4, .int (nI (6 * k)))] [] hc hm ov cells slots := by
  obtain ⟨r, hc', hm', h1, h2, hR'⟩ := hS hc hm hR (xs (6 * k + 1)) (xs (6 * k + 2))
  refine L_aload_n dL_law_544 rfl 1 rfl ?_
  refine L_aload_n dL_law_545 rfl 0 rfl ?_
  refine L_iload dL_law_546 4 rfl ?_
  refine L_iconst (v := 1) dL_law_548 rfl ?_
  refine L_iadd dL_law_549 ?_
  refine L_sld (j := 6 * k + 1) (nI_add (6 * k) 1) (by omega) hL dL_law_550 ?_
  refine L_aload_n dL_law_551 rfl 0 rfl ?_
  refine L_iload dL_law_552 4 rfl ?_
  refine L_iconst (v := 2) dL_law_554 rfl ?_
  refine L_iadd dL_law_555 ?_
  refine L_sld (j := 6 * k + 2) (nI_add (6 * k) 2) (by omega) hL dL_law_556 ?_
  refine L_call0 (As := [.int (xs (6 * k + 1)), .int (xs (6 * k + 2))]) (rest := []) h1 (sX_deep G hc (xs (6 * k + 1)) (xs (6 * k + 2))) ck_X8_deep lk_L_55 ⟨rfl, rfl, Nat.le_of_ble_eq_true rfl, Nat.le_of_ble_eq_true rfl⟩ rfl rfl rfl rfl rfl (by omega) (by omega) dL_law_557 ?_
  show LSim G b L xs ao 560 _ [.int r] hc' hm ov cells slots
  refine L_aload_n dL_law_560 rfl 2 rfl ?_
  refine L_aload_n dL_law_561 rfl 0 rfl ?_
  refine L_iload dL_law_562 4 rfl ?_
  refine L_iconst (v := 1) dL_law_564 rfl ?_
  refine L_iadd dL_law_565 ?_
  refine L_sld (j := 6 * k + 1) (nI_add (6 * k) 1) (by omega) hL dL_law_566 ?_
  refine L_aload_n dL_law_567 rfl 0 rfl ?_
  refine L_iload dL_law_568 4 rfl ?_
  refine L_iconst (v := 2) dL_law_570 rfl ?_
  refine L_iadd dL_law_571 ?_
  refine L_sld (j := 6 * k + 2) (nI_add (6 * k) 2) (by omega) hL dL_law_572 ?_
  refine L_call1 (As := [.int (xs (6 * k + 1)), .int (xs (6 * k + 2))]) (rest := [.int r]) h2 (sM_deep G hm (xs (6 * k + 1)) (xs (6 * k + 2))) ck_X9_deep lk_L_58 ⟨rfl, rfl, Nat.le_of_ble_eq_true rfl, Nat.le_of_ble_eq_true rfl⟩ rfl rfl rfl rfl rfl (by omega) (by omega) dL_law_573 ?_
  show LSim G b L xs ao 576 _ [.int r, .int r] hc' hm' ov cells slots
  refine L_icmp_eq_t (t := 1737) dL_law_576 rfl rfl ?_
  exact hnext hc' hm' ov cells slots hR' (by omega) (by omega)
set_option maxRecDepth 20000 in
set_option maxHeartbeats 2000000 in
theorem cs_relief (G : JG) (b L : Nat) (xs : Nat → Int32) (ao k : Nat) (hL : L ≤ 3072) (hk : 6 * k + 6 ≤ L) (Rel : AH → AH → Prop) (hS : so_relief Rel) (hnext : ∀ (hc hm : AH) (ov : Nat → Int64) (cells slots : Nat), Rel hc hm → cells ≤ 105 + (k + 1) → slots ≤ 42664 + 6 * (k + 1) → LSim G b L xs ao 1737 [(0, .ref b), (1, .ref (G.ad 0 0)), (2, .ref (G.ad 32 0)), (3, .ref ao), (4, .int (nI (6 * k)))] [] hc hm ov cells slots) (hc hm : AH) (ov : Nat → Int64) (cells slots : Nat) (hR : Rel hc hm) (hcs : cells ≤ 105 + k) (hss : slots ≤ 42664 + 6 * k) : LSim G b L xs ao 581 [(0, .ref b), (1, .ref (G.ad 0 0)), (2, .ref (G.ad 32 0)), (3, .ref ao), (4, .int (nI (6 * k)))] [] hc hm ov cells slots := by
  obtain ⟨r, hc', hm', h1, h2, hR'⟩ := hS hc hm hR (xs (6 * k + 1)) (xs (6 * k + 2))
  refine L_aload_n dL_law_581 rfl 1 rfl ?_
  refine L_aload_n dL_law_582 rfl 0 rfl ?_
  refine L_iload dL_law_583 4 rfl ?_
  refine L_iconst (v := 1) dL_law_585 rfl ?_
  refine L_iadd dL_law_586 ?_
  refine L_sld (j := 6 * k + 1) (nI_add (6 * k) 1) (by omega) hL dL_law_587 ?_
  refine L_aload_n dL_law_588 rfl 0 rfl ?_
  refine L_iload dL_law_589 4 rfl ?_
  refine L_iconst (v := 2) dL_law_591 rfl ?_
  refine L_iadd dL_law_592 ?_
  refine L_sld (j := 6 * k + 2) (nI_add (6 * k) 2) (by omega) hL dL_law_593 ?_
  refine L_call0 (As := [.int (xs (6 * k + 1)), .int (xs (6 * k + 2))]) (rest := []) h1 (sX_relief G hc (xs (6 * k + 1)) (xs (6 * k + 2))) ck_X8_relief lk_L_59 ⟨rfl, rfl, Nat.le_of_ble_eq_true rfl, Nat.le_of_ble_eq_true rfl⟩ rfl rfl rfl rfl rfl (by omega) (by omega) dL_law_594 ?_
  show LSim G b L xs ao 597 _ [.int r] hc' hm ov cells slots
  refine L_aload_n dL_law_597 rfl 2 rfl ?_
  refine L_aload_n dL_law_598 rfl 0 rfl ?_
  refine L_iload dL_law_599 4 rfl ?_
  refine L_iconst (v := 1) dL_law_601 rfl ?_
  refine L_iadd dL_law_602 ?_
  refine L_sld (j := 6 * k + 1) (nI_add (6 * k) 1) (by omega) hL dL_law_603 ?_
  refine L_aload_n dL_law_604 rfl 0 rfl ?_
  refine L_iload dL_law_605 4 rfl ?_
  refine L_iconst (v := 2) dL_law_607 rfl ?_
  refine L_iadd dL_law_608 ?_
  refine L_sld (j := 6 * k + 2) (nI_add (6 * k) 2) (by omega) hL dL_law_609 ?_
  refine L_call1 (As := [.int (xs (6 * k + 1)), .int (xs (6 * k + 2))]) (rest := [.int r]) h2 (sM_relief G hm (xs (6 * k + 1)) (xs (6 * k + 2))) ck_X9_relief lk_L_62 ⟨rfl, rfl, Nat.le_of_ble_eq_true rfl, Nat.le_of_ble_eq_true rfl⟩ rfl rfl rfl rfl rfl (by omega) (by omega) dL_law_610 ?_
  show LSim G b L xs ao 613 _ [.int r, .int r] hc' hm' ov cells slots
  refine L_icmp_eq_t (t := 1737) dL_law_613 rfl rfl ?_
  exact hnext hc' hm' ov cells slots hR' (by omega) (by omega)
set_option maxRecDepth 20000 in
set_option maxHeartbeats 2000000 in
theorem cs_light (G : JG) (b L : Nat) (xs : Nat → Int32) (ao k : Nat) (hL : L ≤ 3072) (hk : 6 * k + 6 ≤ L) (Rel : AH → AH → Prop) (hS : so_light Rel) (hnext : ∀ (hc hm : AH) (ov : Nat → Int64) (cells slots : Nat), Rel hc hm → cells ≤ 105 + (k + 1) → slots ≤ 42664 + 6 * (k + 1) → LSim G b L xs ao 1737 [(0, .ref b), (1, .ref (G.ad 0 0)), (2, .ref (G.ad 32 0)), (3, .ref ao), (4, .int (nI (6 * k)))] [] hc hm ov cells slots) (hc hm : AH) (ov : Nat → Int64) (cells slots : Nat) (hR : Rel hc hm) (hcs : cells ≤ 105 + k) (hss : slots ≤ 42664 + 6 * k) : LSim G b L xs ao 618 [(0, .ref b), (1, .ref (G.ad 0 0)), (2, .ref (G.ad 32 0)), (3, .ref ao), (4, .int (nI (6 * k)))] [] hc hm ov cells slots := by
  obtain ⟨r, hc', hm', h1, h2, hR'⟩ := hS hc hm hR (xs (6 * k + 1)) (xs (6 * k + 2))
  refine L_aload_n dL_law_618 rfl 1 rfl ?_
  refine L_aload_n dL_law_619 rfl 0 rfl ?_
  refine L_iload dL_law_620 4 rfl ?_
  refine L_iconst (v := 1) dL_law_622 rfl ?_
  refine L_iadd dL_law_623 ?_
  refine L_sld (j := 6 * k + 1) (nI_add (6 * k) 1) (by omega) hL dL_law_624 ?_
  refine L_aload_n dL_law_625 rfl 0 rfl ?_
  refine L_iload dL_law_626 4 rfl ?_
  refine L_iconst (v := 2) dL_law_628 rfl ?_
  refine L_iadd dL_law_629 ?_
  refine L_sld (j := 6 * k + 2) (nI_add (6 * k) 2) (by omega) hL dL_law_630 ?_
  refine L_call0 (As := [.int (xs (6 * k + 1)), .int (xs (6 * k + 2))]) (rest := []) h1 (sX_light G hc (xs (6 * k + 1)) (xs (6 * k + 2))) ck_X8_light lk_L_63 ⟨rfl, rfl, Nat.le_of_ble_eq_true rfl, Nat.le_of_ble_eq_true rfl⟩ rfl rfl rfl rfl rfl (by omega) (by omega) dL_law_631 ?_
  show LSim G b L xs ao 634 _ [.int r] hc' hm ov cells slots
  refine L_aload_n dL_law_634 rfl 2 rfl ?_
  refine L_aload_n dL_law_635 rfl 0 rfl ?_
  refine L_iload dL_law_636 4 rfl ?_
  refine L_iconst (v := 1) dL_law_638 rfl ?_
  refine L_iadd dL_law_639 ?_
  refine L_sld (j := 6 * k + 1) (nI_add (6 * k) 1) (by omega) hL dL_law_640 ?_
  refine L_aload_n dL_law_641 rfl 0 rfl ?_
  refine L_iload dL_law_642 4 rfl ?_
  refine L_iconst (v := 2) dL_law_644 rfl ?_
  refine L_iadd dL_law_645 ?_
  refine L_sld (j := 6 * k + 2) (nI_add (6 * k) 2) (by omega) hL dL_law_646 ?_
  refine L_call1 (As := [.int (xs (6 * k + 1)), .int (xs (6 * k + 2))]) (rest := [.int r]) h2 (sM_light G hm (xs (6 * k + 1)) (xs (6 * k + 2))) ck_X9_light lk_L_66 ⟨rfl, rfl, Nat.le_of_ble_eq_true rfl, Nat.le_of_ble_eq_true rfl⟩ rfl rfl rfl rfl rfl (by omega) (by omega) dL_law_647 ?_
  show LSim G b L xs ao 650 _ [.int r, .int r] hc' hm' ov cells slots
  refine L_icmp_eq_t (t := 1737) dL_law_650 rfl rfl ?_
  exact hnext hc' hm' ov cells slots hR' (by omega) (by omega)
set_option maxRecDepth 20000 in
set_option maxHeartbeats 2000000 in
theorem cs_area (G : JG) (b L : Nat) (xs : Nat → Int32) (ao k : Nat) (hL : L ≤ 3072) (hk : 6 * k + 6 ≤ L) (Rel : AH → AH → Prop) (hS : so_area Rel) (hnext : ∀ (hc hm : AH) (ov : Nat → Int64) (cells slots : Nat), Rel hc hm → cells ≤ 105 + (k + 1) → slots ≤ 42664 + 6 * (k + 1) → LSim G b L xs ao 1737 [(0, .ref b), (1, .ref (G.ad 0 0)), (2, .ref (G.ad 32 0)), (3, .ref ao), (4, .int (nI (6 * k)))] [] hc hm ov cells slots) (hc hm : AH) (ov : Nat → Int64) (cells slots : Nat) (hR : Rel hc hm) (hcs : cells ≤ 105 + k) (hss : slots ≤ 42664 + 6 * k) : LSim G b L xs ao 655 [(0, .ref b), (1, .ref (G.ad 0 0)), (2, .ref (G.ad 32 0)), (3, .ref ao), (4, .int (nI (6 * k)))] [] hc hm ov cells slots := by
  obtain ⟨r, hc', hm', h1, h2, hR'⟩ := hS hc hm hR (xs (6 * k + 1))
  refine L_aload_n dL_law_655 rfl 1 rfl ?_
  refine L_aload_n dL_law_656 rfl 0 rfl ?_
  refine L_iload dL_law_657 4 rfl ?_
  refine L_iconst (v := 1) dL_law_659 rfl ?_
  refine L_iadd dL_law_660 ?_
  refine L_sld (j := 6 * k + 1) (nI_add (6 * k) 1) (by omega) hL dL_law_661 ?_
  refine L_call0 (As := [.int (xs (6 * k + 1))]) (rest := []) h1 (sX_area G hc (xs (6 * k + 1))) ck_X8_area lk_L_67 ⟨rfl, rfl, Nat.le_of_ble_eq_true rfl, Nat.le_of_ble_eq_true rfl⟩ rfl rfl rfl rfl rfl (by omega) (by omega) dL_law_662 ?_
  show LSim G b L xs ao 665 _ [.int r] hc' hm ov cells slots
  refine L_aload_n dL_law_665 rfl 2 rfl ?_
  refine L_aload_n dL_law_666 rfl 0 rfl ?_
  refine L_iload dL_law_667 4 rfl ?_
  refine L_iconst (v := 1) dL_law_669 rfl ?_
  refine L_iadd dL_law_670 ?_
  refine L_sld (j := 6 * k + 1) (nI_add (6 * k) 1) (by omega) hL dL_law_671 ?_
  refine L_call1 (As := [.int (xs (6 * k + 1))]) (rest := [.int r]) h2 (sM_area G hm (xs (6 * k + 1))) ck_X9_area lk_L_70 ⟨rfl, rfl, Nat.le_of_ble_eq_true rfl, Nat.le_of_ble_eq_true rfl⟩ rfl rfl rfl rfl rfl (by omega) (by omega) dL_law_672 ?_
  show LSim G b L xs ao 675 _ [.int r, .int r] hc' hm' ov cells slots
  refine L_icmp_eq_t (t := 1737) dL_law_675 rfl rfl ?_
  exact hnext hc' hm' ov cells slots hR' (by omega) (by omega)
set_option maxRecDepth 20000 in
set_option maxHeartbeats 2000000 in
theorem cs_share (G : JG) (b L : Nat) (xs : Nat → Int32) (ao k : Nat) (hL : L ≤ 3072) (hk : 6 * k + 6 ≤ L) (Rel : AH → AH → Prop) (hS : so_share Rel) (hnext : ∀ (hc hm : AH) (ov : Nat → Int64) (cells slots : Nat), Rel hc hm → cells ≤ 105 + (k + 1) → slots ≤ 42664 + 6 * (k + 1) → LSim G b L xs ao 1737 [(0, .ref b), (1, .ref (G.ad 0 0)), (2, .ref (G.ad 32 0)), (3, .ref ao), (4, .int (nI (6 * k)))] [] hc hm ov cells slots) (hc hm : AH) (ov : Nat → Int64) (cells slots : Nat) (hR : Rel hc hm) (hcs : cells ≤ 105 + k) (hss : slots ≤ 42664 + 6 * k) : LSim G b L xs ao 680 [(0, .ref b), (1, .ref (G.ad 0 0)), (2, .ref (G.ad 32 0)), (3, .ref ao), (4, .int (nI (6 * k)))] [] hc hm ov cells slots := by
  obtain ⟨r, hc', hm', h1, h2, hR'⟩ := hS hc hm hR (xs (6 * k + 1))
  refine L_aload_n dL_law_680 rfl 1 rfl ?_
  refine L_aload_n dL_law_681 rfl 0 rfl ?_
  refine L_iload dL_law_682 4 rfl ?_
  refine L_iconst (v := 1) dL_law_684 rfl ?_
  refine L_iadd dL_law_685 ?_
  refine L_sld (j := 6 * k + 1) (nI_add (6 * k) 1) (by omega) hL dL_law_686 ?_
  refine L_call0 (As := [.int (xs (6 * k + 1))]) (rest := []) h1 (sX_share G hc (xs (6 * k + 1))) ck_X8_share lk_L_71 ⟨rfl, rfl, Nat.le_of_ble_eq_true rfl, Nat.le_of_ble_eq_true rfl⟩ rfl rfl rfl rfl rfl (by omega) (by omega) dL_law_687 ?_
  show LSim G b L xs ao 690 _ [.int r] hc' hm ov cells slots
  refine L_aload_n dL_law_690 rfl 2 rfl ?_
  refine L_aload_n dL_law_691 rfl 0 rfl ?_
  refine L_iload dL_law_692 4 rfl ?_
  refine L_iconst (v := 1) dL_law_694 rfl ?_
  refine L_iadd dL_law_695 ?_
  refine L_sld (j := 6 * k + 1) (nI_add (6 * k) 1) (by omega) hL dL_law_696 ?_
  refine L_call1 (As := [.int (xs (6 * k + 1))]) (rest := [.int r]) h2 (sM_share G hm (xs (6 * k + 1))) ck_X9_share lk_L_74 ⟨rfl, rfl, Nat.le_of_ble_eq_true rfl, Nat.le_of_ble_eq_true rfl⟩ rfl rfl rfl rfl rfl (by omega) (by omega) dL_law_697 ?_
  show LSim G b L xs ao 700 _ [.int r, .int r] hc' hm' ov cells slots
  refine L_icmp_eq_t (t := 1737) dL_law_700 rfl rfl ?_
  exact hnext hc' hm' ov cells slots hR' (by omega) (by omega)
set_option maxRecDepth 20000 in
set_option maxHeartbeats 2000000 in
theorem cs_old (G : JG) (b L : Nat) (xs : Nat → Int32) (ao k : Nat) (hL : L ≤ 3072) (hk : 6 * k + 6 ≤ L) (Rel : AH → AH → Prop) (hS : so_old Rel) (hnext : ∀ (hc hm : AH) (ov : Nat → Int64) (cells slots : Nat), Rel hc hm → cells ≤ 105 + (k + 1) → slots ≤ 42664 + 6 * (k + 1) → LSim G b L xs ao 1737 [(0, .ref b), (1, .ref (G.ad 0 0)), (2, .ref (G.ad 32 0)), (3, .ref ao), (4, .int (nI (6 * k)))] [] hc hm ov cells slots) (hc hm : AH) (ov : Nat → Int64) (cells slots : Nat) (hR : Rel hc hm) (hcs : cells ≤ 105 + k) (hss : slots ≤ 42664 + 6 * k) : LSim G b L xs ao 705 [(0, .ref b), (1, .ref (G.ad 0 0)), (2, .ref (G.ad 32 0)), (3, .ref ao), (4, .int (nI (6 * k)))] [] hc hm ov cells slots := by
  obtain ⟨r, hc', hm', h1, h2, hR'⟩ := hS hc hm hR (xs (6 * k + 1))
  refine L_aload_n dL_law_705 rfl 1 rfl ?_
  refine L_aload_n dL_law_706 rfl 0 rfl ?_
  refine L_iload dL_law_707 4 rfl ?_
  refine L_iconst (v := 1) dL_law_709 rfl ?_
  refine L_iadd dL_law_710 ?_
  refine L_sld (j := 6 * k + 1) (nI_add (6 * k) 1) (by omega) hL dL_law_711 ?_
  refine L_call0 (As := [.int (xs (6 * k + 1))]) (rest := []) h1 (sX_old G hc (xs (6 * k + 1))) ck_X8_old lk_L_75 ⟨rfl, rfl, Nat.le_of_ble_eq_true rfl, Nat.le_of_ble_eq_true rfl⟩ rfl rfl rfl rfl rfl (by omega) (by omega) dL_law_712 ?_
  show LSim G b L xs ao 715 _ [.int r] hc' hm ov cells slots
  refine L_aload_n dL_law_715 rfl 2 rfl ?_
  refine L_aload_n dL_law_716 rfl 0 rfl ?_
  refine L_iload dL_law_717 4 rfl ?_
  refine L_iconst (v := 1) dL_law_719 rfl ?_
  refine L_iadd dL_law_720 ?_
  refine L_sld (j := 6 * k + 1) (nI_add (6 * k) 1) (by omega) hL dL_law_721 ?_
  refine L_call1 (As := [.int (xs (6 * k + 1))]) (rest := [.int r]) h2 (sM_old G hm (xs (6 * k + 1))) ck_X9_old lk_L_78 ⟨rfl, rfl, Nat.le_of_ble_eq_true rfl, Nat.le_of_ble_eq_true rfl⟩ rfl rfl rfl rfl rfl (by omega) (by omega) dL_law_722 ?_
  show LSim G b L xs ao 725 _ [.int r, .int r] hc' hm' ov cells slots
  refine L_icmp_eq_t (t := 1737) dL_law_725 rfl rfl ?_
  exact hnext hc' hm' ov cells slots hR' (by omega) (by omega)
set_option maxRecDepth 20000 in
set_option maxHeartbeats 2000000 in
theorem cs_changes (G : JG) (b L : Nat) (xs : Nat → Int32) (ao k : Nat) (hL : L ≤ 3072) (hk : 6 * k + 6 ≤ L) (Rel : AH → AH → Prop) (hS : so_changes Rel) (hnext : ∀ (hc hm : AH) (ov : Nat → Int64) (cells slots : Nat), Rel hc hm → cells ≤ 105 + (k + 1) → slots ≤ 42664 + 6 * (k + 1) → LSim G b L xs ao 1737 [(0, .ref b), (1, .ref (G.ad 0 0)), (2, .ref (G.ad 32 0)), (3, .ref ao), (4, .int (nI (6 * k)))] [] hc hm ov cells slots) (hc hm : AH) (ov : Nat → Int64) (cells slots : Nat) (hR : Rel hc hm) (hcs : cells ≤ 105 + k) (hss : slots ≤ 42664 + 6 * k) : LSim G b L xs ao 730 [(0, .ref b), (1, .ref (G.ad 0 0)), (2, .ref (G.ad 32 0)), (3, .ref ao), (4, .int (nI (6 * k)))] [] hc hm ov cells slots := by
  obtain ⟨r, hc', hm', h1, h2, hR'⟩ := hS hc hm hR (xs (6 * k + 1)) (xs (6 * k + 2))
  refine L_aload_n dL_law_730 rfl 1 rfl ?_
  refine L_aload_n dL_law_731 rfl 0 rfl ?_
  refine L_iload dL_law_732 4 rfl ?_
  refine L_iconst (v := 1) dL_law_734 rfl ?_
  refine L_iadd dL_law_735 ?_
  refine L_sld (j := 6 * k + 1) (nI_add (6 * k) 1) (by omega) hL dL_law_736 ?_
  refine L_aload_n dL_law_737 rfl 0 rfl ?_
  refine L_iload dL_law_738 4 rfl ?_
  refine L_iconst (v := 2) dL_law_740 rfl ?_
  refine L_iadd dL_law_741 ?_
  refine L_sld (j := 6 * k + 2) (nI_add (6 * k) 2) (by omega) hL dL_law_742 ?_
  refine L_call0 (As := [.int (xs (6 * k + 1)), .int (xs (6 * k + 2))]) (rest := []) h1 (sX_changes G hc (xs (6 * k + 1)) (xs (6 * k + 2))) ck_X8_changes lk_L_79 ⟨rfl, rfl, Nat.le_of_ble_eq_true rfl, Nat.le_of_ble_eq_true rfl⟩ rfl rfl rfl rfl rfl (by omega) (by omega) dL_law_743 ?_
  show LSim G b L xs ao 746 _ [.int r] hc' hm ov cells slots
  refine L_aload_n dL_law_746 rfl 2 rfl ?_
  refine L_aload_n dL_law_747 rfl 0 rfl ?_
  refine L_iload dL_law_748 4 rfl ?_
  refine L_iconst (v := 1) dL_law_750 rfl ?_
  refine L_iadd dL_law_751 ?_
  refine L_sld (j := 6 * k + 1) (nI_add (6 * k) 1) (by omega) hL dL_law_752 ?_
  refine L_aload_n dL_law_753 rfl 0 rfl ?_
  refine L_iload dL_law_754 4 rfl ?_
  refine L_iconst (v := 2) dL_law_756 rfl ?_
  refine L_iadd dL_law_757 ?_
  refine L_sld (j := 6 * k + 2) (nI_add (6 * k) 2) (by omega) hL dL_law_758 ?_
  refine L_call1 (As := [.int (xs (6 * k + 1)), .int (xs (6 * k + 2))]) (rest := [.int r]) h2 (sM_changes G hm (xs (6 * k + 1)) (xs (6 * k + 2))) ck_X9_changes lk_L_82 ⟨rfl, rfl, Nat.le_of_ble_eq_true rfl, Nat.le_of_ble_eq_true rfl⟩ rfl rfl rfl rfl rfl (by omega) (by omega) dL_law_759 ?_
  show LSim G b L xs ao 762 _ [.int r, .int r] hc' hm' ov cells slots
  refine L_icmp_eq_t (t := 1737) dL_law_762 rfl rfl ?_
  exact hnext hc' hm' ov cells slots hR' (by omega) (by omega)
set_option maxRecDepth 20000 in
set_option maxHeartbeats 2000000 in
theorem cs_work (G : JG) (b L : Nat) (xs : Nat → Int32) (ao k : Nat) (hL : L ≤ 3072) (hk : 6 * k + 6 ≤ L) (Rel : AH → AH → Prop) (hS : so_work Rel) (hnext : ∀ (hc hm : AH) (ov : Nat → Int64) (cells slots : Nat), Rel hc hm → cells ≤ 105 + (k + 1) → slots ≤ 42664 + 6 * (k + 1) → LSim G b L xs ao 1737 [(0, .ref b), (1, .ref (G.ad 0 0)), (2, .ref (G.ad 32 0)), (3, .ref ao), (4, .int (nI (6 * k)))] [] hc hm ov cells slots) (hc hm : AH) (ov : Nat → Int64) (cells slots : Nat) (hR : Rel hc hm) (hcs : cells ≤ 105 + k) (hss : slots ≤ 42664 + 6 * k) : LSim G b L xs ao 767 [(0, .ref b), (1, .ref (G.ad 0 0)), (2, .ref (G.ad 32 0)), (3, .ref ao), (4, .int (nI (6 * k)))] [] hc hm ov cells slots := by
  obtain ⟨r, hc', hm', h1, h2, hR'⟩ := hS hc hm hR (xs (6 * k + 1)) (xs (6 * k + 2))
  refine L_aload_n dL_law_767 rfl 1 rfl ?_
  refine L_aload_n dL_law_768 rfl 0 rfl ?_
  refine L_iload dL_law_769 4 rfl ?_
  refine L_iconst (v := 1) dL_law_771 rfl ?_
  refine L_iadd dL_law_772 ?_
  refine L_sld (j := 6 * k + 1) (nI_add (6 * k) 1) (by omega) hL dL_law_773 ?_
  refine L_aload_n dL_law_774 rfl 0 rfl ?_
  refine L_iload dL_law_775 4 rfl ?_
  refine L_iconst (v := 2) dL_law_777 rfl ?_
  refine L_iadd dL_law_778 ?_
  refine L_sld (j := 6 * k + 2) (nI_add (6 * k) 2) (by omega) hL dL_law_779 ?_
  refine L_call0 (As := [.int (xs (6 * k + 1)), .int (xs (6 * k + 2))]) (rest := []) h1 (sX_work G hc (xs (6 * k + 1)) (xs (6 * k + 2))) ck_X8_work lk_L_83 ⟨rfl, rfl, Nat.le_of_ble_eq_true rfl, Nat.le_of_ble_eq_true rfl⟩ rfl rfl rfl rfl rfl (by omega) (by omega) dL_law_780 ?_
  show LSim G b L xs ao 783 _ [.int r] hc' hm ov cells slots
  refine L_aload_n dL_law_783 rfl 2 rfl ?_
  refine L_aload_n dL_law_784 rfl 0 rfl ?_
  refine L_iload dL_law_785 4 rfl ?_
  refine L_iconst (v := 1) dL_law_787 rfl ?_
  refine L_iadd dL_law_788 ?_
  refine L_sld (j := 6 * k + 1) (nI_add (6 * k) 1) (by omega) hL dL_law_789 ?_
  refine L_aload_n dL_law_790 rfl 0 rfl ?_
  refine L_iload dL_law_791 4 rfl ?_
  refine L_iconst (v := 2) dL_law_793 rfl ?_
  refine L_iadd dL_law_794 ?_
  refine L_sld (j := 6 * k + 2) (nI_add (6 * k) 2) (by omega) hL dL_law_795 ?_
  refine L_call1 (As := [.int (xs (6 * k + 1)), .int (xs (6 * k + 2))]) (rest := [.int r]) h2 (sM_work G hm (xs (6 * k + 1)) (xs (6 * k + 2))) ck_X9_work lk_L_86 ⟨rfl, rfl, Nat.le_of_ble_eq_true rfl, Nat.le_of_ble_eq_true rfl⟩ rfl rfl rfl rfl rfl (by omega) (by omega) dL_law_796 ?_
  show LSim G b L xs ao 799 _ [.int r, .int r] hc' hm' ov cells slots
  refine L_icmp_eq_t (t := 1737) dL_law_799 rfl rfl ?_
  exact hnext hc' hm' ov cells slots hR' (by omega) (by omega)
set_option maxRecDepth 20000 in
set_option maxHeartbeats 2000000 in
theorem cs_paint (G : JG) (b L : Nat) (xs : Nat → Int32) (ao k : Nat) (hL : L ≤ 3072) (hk : 6 * k + 6 ≤ L) (Rel : AH → AH → Prop) (hS : so_paint Rel) (hnext : ∀ (hc hm : AH) (ov : Nat → Int64) (cells slots : Nat), Rel hc hm → cells ≤ 105 + (k + 1) → slots ≤ 42664 + 6 * (k + 1) → LSim G b L xs ao 1737 [(0, .ref b), (1, .ref (G.ad 0 0)), (2, .ref (G.ad 32 0)), (3, .ref ao), (4, .int (nI (6 * k)))] [] hc hm ov cells slots) (hc hm : AH) (ov : Nat → Int64) (cells slots : Nat) (hR : Rel hc hm) (hcs : cells ≤ 105 + k) (hss : slots ≤ 42664 + 6 * k) : LSim G b L xs ao 804 [(0, .ref b), (1, .ref (G.ad 0 0)), (2, .ref (G.ad 32 0)), (3, .ref ao), (4, .int (nI (6 * k)))] [] hc hm ov cells slots := by
  obtain ⟨r, hc', hm', h1, h2, hR'⟩ := hS hc hm hR (xs (6 * k + 1)) (xs (6 * k + 2)) (xs (6 * k + 3))
  refine L_aload_n dL_law_804 rfl 1 rfl ?_
  refine L_aload_n dL_law_805 rfl 0 rfl ?_
  refine L_iload dL_law_806 4 rfl ?_
  refine L_iconst (v := 1) dL_law_808 rfl ?_
  refine L_iadd dL_law_809 ?_
  refine L_sld (j := 6 * k + 1) (nI_add (6 * k) 1) (by omega) hL dL_law_810 ?_
  refine L_aload_n dL_law_811 rfl 0 rfl ?_
  refine L_iload dL_law_812 4 rfl ?_
  refine L_iconst (v := 2) dL_law_814 rfl ?_
  refine L_iadd dL_law_815 ?_
  refine L_sld (j := 6 * k + 2) (nI_add (6 * k) 2) (by omega) hL dL_law_816 ?_
  refine L_aload_n dL_law_817 rfl 0 rfl ?_
  refine L_iload dL_law_818 4 rfl ?_
  refine L_iconst (v := 3) dL_law_820 rfl ?_
  refine L_iadd dL_law_821 ?_
  refine L_sld (j := 6 * k + 3) (nI_add (6 * k) 3) (by omega) hL dL_law_822 ?_
  refine L_call0 (As := [.int (xs (6 * k + 1)), .int (xs (6 * k + 2)), .int (xs (6 * k + 3))]) (rest := []) h1 (sX_paint G hc (xs (6 * k + 1)) (xs (6 * k + 2)) (xs (6 * k + 3))) ck_X8_paint lk_L_87 ⟨rfl, rfl, Nat.le_of_ble_eq_true rfl, Nat.le_of_ble_eq_true rfl⟩ rfl rfl rfl rfl rfl (by omega) (by omega) dL_law_823 ?_
  show LSim G b L xs ao 826 _ [.int r] hc' hm ov cells slots
  refine L_aload_n dL_law_826 rfl 2 rfl ?_
  refine L_aload_n dL_law_827 rfl 0 rfl ?_
  refine L_iload dL_law_828 4 rfl ?_
  refine L_iconst (v := 1) dL_law_830 rfl ?_
  refine L_iadd dL_law_831 ?_
  refine L_sld (j := 6 * k + 1) (nI_add (6 * k) 1) (by omega) hL dL_law_832 ?_
  refine L_aload_n dL_law_833 rfl 0 rfl ?_
  refine L_iload dL_law_834 4 rfl ?_
  refine L_iconst (v := 2) dL_law_836 rfl ?_
  refine L_iadd dL_law_837 ?_
  refine L_sld (j := 6 * k + 2) (nI_add (6 * k) 2) (by omega) hL dL_law_838 ?_
  refine L_aload_n dL_law_839 rfl 0 rfl ?_
  refine L_iload dL_law_840 4 rfl ?_
  refine L_iconst (v := 3) dL_law_842 rfl ?_
  refine L_iadd dL_law_843 ?_
  refine L_sld (j := 6 * k + 3) (nI_add (6 * k) 3) (by omega) hL dL_law_844 ?_
  refine L_call1 (As := [.int (xs (6 * k + 1)), .int (xs (6 * k + 2)), .int (xs (6 * k + 3))]) (rest := [.int r]) h2 (sM_paint G hm (xs (6 * k + 1)) (xs (6 * k + 2)) (xs (6 * k + 3))) ck_X9_paint lk_L_90 ⟨rfl, rfl, Nat.le_of_ble_eq_true rfl, Nat.le_of_ble_eq_true rfl⟩ rfl rfl rfl rfl rfl (by omega) (by omega) dL_law_845 ?_
  show LSim G b L xs ao 848 _ [.int r, .int r] hc' hm' ov cells slots
  refine L_icmp_eq_t (t := 1737) dL_law_848 rfl rfl ?_
  exact hnext hc' hm' ov cells slots hR' (by omega) (by omega)
set_option maxRecDepth 20000 in
set_option maxHeartbeats 2000000 in
theorem cs_judged (G : JG) (b L : Nat) (xs : Nat → Int32) (ao k : Nat) (hL : L ≤ 3072) (hk : 6 * k + 6 ≤ L) (Rel : AH → AH → Prop) (hS : so_judged Rel) (hnext : ∀ (hc hm : AH) (ov : Nat → Int64) (cells slots : Nat), Rel hc hm → cells ≤ 105 + (k + 1) → slots ≤ 42664 + 6 * (k + 1) → LSim G b L xs ao 1737 [(0, .ref b), (1, .ref (G.ad 0 0)), (2, .ref (G.ad 32 0)), (3, .ref ao), (4, .int (nI (6 * k)))] [] hc hm ov cells slots) (hc hm : AH) (ov : Nat → Int64) (cells slots : Nat) (hR : Rel hc hm) (hcs : cells ≤ 105 + k) (hss : slots ≤ 42664 + 6 * k) : LSim G b L xs ao 853 [(0, .ref b), (1, .ref (G.ad 0 0)), (2, .ref (G.ad 32 0)), (3, .ref ao), (4, .int (nI (6 * k)))] [] hc hm ov cells slots := by
  obtain ⟨r, hc', hm', h1, h2, hR'⟩ := hS hc hm hR (xs (6 * k + 1))
  refine L_aload_n dL_law_853 rfl 1 rfl ?_
  refine L_aload_n dL_law_854 rfl 0 rfl ?_
  refine L_iload dL_law_855 4 rfl ?_
  refine L_iconst (v := 1) dL_law_857 rfl ?_
  refine L_iadd dL_law_858 ?_
  refine L_sld (j := 6 * k + 1) (nI_add (6 * k) 1) (by omega) hL dL_law_859 ?_
  refine L_call0 (As := [.int (xs (6 * k + 1))]) (rest := []) h1 (sX_judged G hc (xs (6 * k + 1))) ck_X8_judged lk_L_91 ⟨rfl, rfl, Nat.le_of_ble_eq_true rfl, Nat.le_of_ble_eq_true rfl⟩ rfl rfl rfl rfl rfl (by omega) (by omega) dL_law_860 ?_
  show LSim G b L xs ao 863 _ [.int r] hc' hm ov cells slots
  refine L_aload_n dL_law_863 rfl 2 rfl ?_
  refine L_aload_n dL_law_864 rfl 0 rfl ?_
  refine L_iload dL_law_865 4 rfl ?_
  refine L_iconst (v := 1) dL_law_867 rfl ?_
  refine L_iadd dL_law_868 ?_
  refine L_sld (j := 6 * k + 1) (nI_add (6 * k) 1) (by omega) hL dL_law_869 ?_
  refine L_call1 (As := [.int (xs (6 * k + 1))]) (rest := [.int r]) h2 (sM_judged G hm (xs (6 * k + 1))) ck_X9_judged lk_L_94 ⟨rfl, rfl, Nat.le_of_ble_eq_true rfl, Nat.le_of_ble_eq_true rfl⟩ rfl rfl rfl rfl rfl (by omega) (by omega) dL_law_870 ?_
  show LSim G b L xs ao 873 _ [.int r, .int r] hc' hm' ov cells slots
  refine L_icmp_eq_t (t := 1737) dL_law_873 rfl rfl ?_
  exact hnext hc' hm' ov cells slots hR' (by omega) (by omega)
set_option maxRecDepth 20000 in
set_option maxHeartbeats 2000000 in
theorem cs_breaks (G : JG) (b L : Nat) (xs : Nat → Int32) (ao k : Nat) (hL : L ≤ 3072) (hk : 6 * k + 6 ≤ L) (Rel : AH → AH → Prop) (hS : so_breaks Rel) (hnext : ∀ (hc hm : AH) (ov : Nat → Int64) (cells slots : Nat), Rel hc hm → cells ≤ 105 + (k + 1) → slots ≤ 42664 + 6 * (k + 1) → LSim G b L xs ao 1737 [(0, .ref b), (1, .ref (G.ad 0 0)), (2, .ref (G.ad 32 0)), (3, .ref ao), (4, .int (nI (6 * k)))] [] hc hm ov cells slots) (hc hm : AH) (ov : Nat → Int64) (cells slots : Nat) (hR : Rel hc hm) (hcs : cells ≤ 105 + k) (hss : slots ≤ 42664 + 6 * k) : LSim G b L xs ao 878 [(0, .ref b), (1, .ref (G.ad 0 0)), (2, .ref (G.ad 32 0)), (3, .ref ao), (4, .int (nI (6 * k)))] [] hc hm ov cells slots := by
  obtain ⟨r, hc', hm', h1, h2, hR'⟩ := hS hc hm hR (xs (6 * k + 1))
  refine L_aload_n dL_law_878 rfl 1 rfl ?_
  refine L_aload_n dL_law_879 rfl 0 rfl ?_
  refine L_iload dL_law_880 4 rfl ?_
  refine L_iconst (v := 1) dL_law_882 rfl ?_
  refine L_iadd dL_law_883 ?_
  refine L_sld (j := 6 * k + 1) (nI_add (6 * k) 1) (by omega) hL dL_law_884 ?_
  refine L_call0 (As := [.int (xs (6 * k + 1))]) (rest := []) h1 (sX_breaks G hc (xs (6 * k + 1))) ck_X8_breaks lk_L_95 ⟨rfl, rfl, Nat.le_of_ble_eq_true rfl, Nat.le_of_ble_eq_true rfl⟩ rfl rfl rfl rfl rfl (by omega) (by omega) dL_law_885 ?_
  show LSim G b L xs ao 888 _ [.int r] hc' hm ov cells slots
  refine L_aload_n dL_law_888 rfl 2 rfl ?_
  refine L_aload_n dL_law_889 rfl 0 rfl ?_
  refine L_iload dL_law_890 4 rfl ?_
  refine L_iconst (v := 1) dL_law_892 rfl ?_
  refine L_iadd dL_law_893 ?_
  refine L_sld (j := 6 * k + 1) (nI_add (6 * k) 1) (by omega) hL dL_law_894 ?_
  refine L_call1 (As := [.int (xs (6 * k + 1))]) (rest := [.int r]) h2 (sM_breaks G hm (xs (6 * k + 1))) ck_X9_breaks lk_L_98 ⟨rfl, rfl, Nat.le_of_ble_eq_true rfl, Nat.le_of_ble_eq_true rfl⟩ rfl rfl rfl rfl rfl (by omega) (by omega) dL_law_895 ?_
  show LSim G b L xs ao 898 _ [.int r, .int r] hc' hm' ov cells slots
  refine L_icmp_eq_t (t := 1737) dL_law_898 rfl rfl ?_
  exact hnext hc' hm' ov cells slots hR' (by omega) (by omega)
set_option maxRecDepth 20000 in
set_option maxHeartbeats 2000000 in
theorem cs_forged (G : JG) (b L : Nat) (xs : Nat → Int32) (ao k : Nat) (hL : L ≤ 3072) (hk : 6 * k + 6 ≤ L) (Rel : AH → AH → Prop) (hS : so_forged Rel) (hnext : ∀ (hc hm : AH) (ov : Nat → Int64) (cells slots : Nat), Rel hc hm → cells ≤ 105 + (k + 1) → slots ≤ 42664 + 6 * (k + 1) → LSim G b L xs ao 1737 [(0, .ref b), (1, .ref (G.ad 0 0)), (2, .ref (G.ad 32 0)), (3, .ref ao), (4, .int (nI (6 * k)))] [] hc hm ov cells slots) (hc hm : AH) (ov : Nat → Int64) (cells slots : Nat) (hR : Rel hc hm) (hcs : cells ≤ 105 + k) (hss : slots ≤ 42664 + 6 * k) : LSim G b L xs ao 903 [(0, .ref b), (1, .ref (G.ad 0 0)), (2, .ref (G.ad 32 0)), (3, .ref ao), (4, .int (nI (6 * k)))] [] hc hm ov cells slots := by
  obtain ⟨r, hc', hm', h1, h2, hR'⟩ := hS hc hm hR 
  refine L_aload_n dL_law_903 rfl 1 rfl ?_
  refine L_call0 (As := []) (rest := []) h1 (sX_forged G hc) ck_X8_forged lk_L_99 ⟨rfl, rfl, Nat.le_of_ble_eq_true rfl, Nat.le_of_ble_eq_true rfl⟩ rfl rfl rfl rfl rfl (by omega) (by omega) dL_law_904 ?_
  show LSim G b L xs ao 907 _ [.int r] hc' hm ov cells slots
  refine L_aload_n dL_law_907 rfl 2 rfl ?_
  refine L_call1 (As := []) (rest := [.int r]) h2 (sM_forged G hm) ck_X9_forged lk_L_102 ⟨rfl, rfl, Nat.le_of_ble_eq_true rfl, Nat.le_of_ble_eq_true rfl⟩ rfl rfl rfl rfl rfl (by omega) (by omega) dL_law_908 ?_
  show LSim G b L xs ao 911 _ [.int r, .int r] hc' hm' ov cells slots
  refine L_icmp_eq_t (t := 1737) dL_law_911 rfl rfl ?_
  exact hnext hc' hm' ov cells slots hR' (by omega) (by omega)
set_option maxRecDepth 20000 in
set_option maxHeartbeats 2000000 in
theorem cs_left (G : JG) (b L : Nat) (xs : Nat → Int32) (ao k : Nat) (hL : L ≤ 3072) (hk : 6 * k + 6 ≤ L) (Rel : AH → AH → Prop) (hS : so_left Rel) (hnext : ∀ (hc hm : AH) (ov : Nat → Int64) (cells slots : Nat), Rel hc hm → cells ≤ 105 + (k + 1) → slots ≤ 42664 + 6 * (k + 1) → LSim G b L xs ao 1737 [(0, .ref b), (1, .ref (G.ad 0 0)), (2, .ref (G.ad 32 0)), (3, .ref ao), (4, .int (nI (6 * k)))] [] hc hm ov cells slots) (hc hm : AH) (ov : Nat → Int64) (cells slots : Nat) (hR : Rel hc hm) (hcs : cells ≤ 105 + k) (hss : slots ≤ 42664 + 6 * k) : LSim G b L xs ao 916 [(0, .ref b), (1, .ref (G.ad 0 0)), (2, .ref (G.ad 32 0)), (3, .ref ao), (4, .int (nI (6 * k)))] [] hc hm ov cells slots := by
  obtain ⟨r, hc', hm', h1, h2, hR'⟩ := hS hc hm hR (xs (6 * k + 1))
  refine L_aload_n dL_law_916 rfl 1 rfl ?_
  refine L_aload_n dL_law_917 rfl 0 rfl ?_
  refine L_iload dL_law_918 4 rfl ?_
  refine L_iconst (v := 1) dL_law_920 rfl ?_
  refine L_iadd dL_law_921 ?_
  refine L_sld (j := 6 * k + 1) (nI_add (6 * k) 1) (by omega) hL dL_law_922 ?_
  refine L_call0 (As := [.int (xs (6 * k + 1))]) (rest := []) h1 (sX_left G hc (xs (6 * k + 1))) ck_X8_left lk_L_103 ⟨rfl, rfl, Nat.le_of_ble_eq_true rfl, Nat.le_of_ble_eq_true rfl⟩ rfl rfl rfl rfl rfl (by omega) (by omega) dL_law_923 ?_
  show LSim G b L xs ao 926 _ [.int r] hc' hm ov cells slots
  refine L_aload_n dL_law_926 rfl 2 rfl ?_
  refine L_aload_n dL_law_927 rfl 0 rfl ?_
  refine L_iload dL_law_928 4 rfl ?_
  refine L_iconst (v := 1) dL_law_930 rfl ?_
  refine L_iadd dL_law_931 ?_
  refine L_sld (j := 6 * k + 1) (nI_add (6 * k) 1) (by omega) hL dL_law_932 ?_
  refine L_call1 (As := [.int (xs (6 * k + 1))]) (rest := [.int r]) h2 (sM_left G hm (xs (6 * k + 1))) ck_X9_left lk_L_106 ⟨rfl, rfl, Nat.le_of_ble_eq_true rfl, Nat.le_of_ble_eq_true rfl⟩ rfl rfl rfl rfl rfl (by omega) (by omega) dL_law_933 ?_
  show LSim G b L xs ao 936 _ [.int r, .int r] hc' hm' ov cells slots
  refine L_icmp_eq_t (t := 1737) dL_law_936 rfl rfl ?_
  exact hnext hc' hm' ov cells slots hR' (by omega) (by omega)
set_option maxRecDepth 20000 in
set_option maxHeartbeats 2000000 in
theorem cs_before (G : JG) (b L : Nat) (xs : Nat → Int32) (ao k : Nat) (hL : L ≤ 3072) (hk : 6 * k + 6 ≤ L) (Rel : AH → AH → Prop) (hS : so_before Rel) (hnext : ∀ (hc hm : AH) (ov : Nat → Int64) (cells slots : Nat), Rel hc hm → cells ≤ 105 + (k + 1) → slots ≤ 42664 + 6 * (k + 1) → LSim G b L xs ao 1737 [(0, .ref b), (1, .ref (G.ad 0 0)), (2, .ref (G.ad 32 0)), (3, .ref ao), (4, .int (nI (6 * k)))] [] hc hm ov cells slots) (hc hm : AH) (ov : Nat → Int64) (cells slots : Nat) (hR : Rel hc hm) (hcs : cells ≤ 105 + k) (hss : slots ≤ 42664 + 6 * k) : LSim G b L xs ao 941 [(0, .ref b), (1, .ref (G.ad 0 0)), (2, .ref (G.ad 32 0)), (3, .ref ao), (4, .int (nI (6 * k)))] [] hc hm ov cells slots := by
  obtain ⟨r, hc', hm', h1, h2, hR'⟩ := hS hc hm hR (xs (6 * k + 1)) (xs (6 * k + 2))
  refine L_aload_n dL_law_941 rfl 1 rfl ?_
  refine L_aload_n dL_law_942 rfl 0 rfl ?_
  refine L_iload dL_law_943 4 rfl ?_
  refine L_iconst (v := 1) dL_law_945 rfl ?_
  refine L_iadd dL_law_946 ?_
  refine L_sld (j := 6 * k + 1) (nI_add (6 * k) 1) (by omega) hL dL_law_947 ?_
  refine L_aload_n dL_law_948 rfl 0 rfl ?_
  refine L_iload dL_law_949 4 rfl ?_
  refine L_iconst (v := 2) dL_law_951 rfl ?_
  refine L_iadd dL_law_952 ?_
  refine L_sld (j := 6 * k + 2) (nI_add (6 * k) 2) (by omega) hL dL_law_953 ?_
  refine L_call0 (As := [.int (xs (6 * k + 1)), .int (xs (6 * k + 2))]) (rest := []) h1 (sX_before G hc (xs (6 * k + 1)) (xs (6 * k + 2))) ck_X8_before lk_L_107 ⟨rfl, rfl, Nat.le_of_ble_eq_true rfl, Nat.le_of_ble_eq_true rfl⟩ rfl rfl rfl rfl rfl (by omega) (by omega) dL_law_954 ?_
  show LSim G b L xs ao 957 _ [.int r] hc' hm ov cells slots
  refine L_aload_n dL_law_957 rfl 2 rfl ?_
  refine L_aload_n dL_law_958 rfl 0 rfl ?_
  refine L_iload dL_law_959 4 rfl ?_
  refine L_iconst (v := 1) dL_law_961 rfl ?_
  refine L_iadd dL_law_962 ?_
  refine L_sld (j := 6 * k + 1) (nI_add (6 * k) 1) (by omega) hL dL_law_963 ?_
  refine L_aload_n dL_law_964 rfl 0 rfl ?_
  refine L_iload dL_law_965 4 rfl ?_
  refine L_iconst (v := 2) dL_law_967 rfl ?_
  refine L_iadd dL_law_968 ?_
  refine L_sld (j := 6 * k + 2) (nI_add (6 * k) 2) (by omega) hL dL_law_969 ?_
  refine L_call1 (As := [.int (xs (6 * k + 1)), .int (xs (6 * k + 2))]) (rest := [.int r]) h2 (sM_before G hm (xs (6 * k + 1)) (xs (6 * k + 2))) ck_X9_before lk_L_110 ⟨rfl, rfl, Nat.le_of_ble_eq_true rfl, Nat.le_of_ble_eq_true rfl⟩ rfl rfl rfl rfl rfl (by omega) (by omega) dL_law_970 ?_
  show LSim G b L xs ao 973 _ [.int r, .int r] hc' hm' ov cells slots
  refine L_icmp_eq_t (t := 1737) dL_law_973 rfl rfl ?_
  exact hnext hc' hm' ov cells slots hR' (by omega) (by omega)
set_option maxRecDepth 20000 in
set_option maxHeartbeats 2000000 in
theorem cs_untold (G : JG) (b L : Nat) (xs : Nat → Int32) (ao k : Nat) (hL : L ≤ 3072) (hk : 6 * k + 6 ≤ L) (Rel : AH → AH → Prop) (hS : so_untold Rel) (hnext : ∀ (hc hm : AH) (ov : Nat → Int64) (cells slots : Nat), Rel hc hm → cells ≤ 105 + (k + 1) → slots ≤ 42664 + 6 * (k + 1) → LSim G b L xs ao 1737 [(0, .ref b), (1, .ref (G.ad 0 0)), (2, .ref (G.ad 32 0)), (3, .ref ao), (4, .int (nI (6 * k)))] [] hc hm ov cells slots) (hc hm : AH) (ov : Nat → Int64) (cells slots : Nat) (hR : Rel hc hm) (hcs : cells ≤ 105 + k) (hss : slots ≤ 42664 + 6 * k) : LSim G b L xs ao 978 [(0, .ref b), (1, .ref (G.ad 0 0)), (2, .ref (G.ad 32 0)), (3, .ref ao), (4, .int (nI (6 * k)))] [] hc hm ov cells slots := by
  obtain ⟨r, hc', hm', h1, h2, hR'⟩ := hS hc hm hR 
  refine L_aload_n dL_law_978 rfl 1 rfl ?_
  refine L_call0 (As := []) (rest := []) h1 (sX_untold G hc) ck_X8_untold lk_L_111 ⟨rfl, rfl, Nat.le_of_ble_eq_true rfl, Nat.le_of_ble_eq_true rfl⟩ rfl rfl rfl rfl rfl (by omega) (by omega) dL_law_979 ?_
  show LSim G b L xs ao 982 _ [.int r] hc' hm ov cells slots
  refine L_aload_n dL_law_982 rfl 2 rfl ?_
  refine L_call1 (As := []) (rest := [.int r]) h2 (sM_untold G hm) ck_X9_untold lk_L_114 ⟨rfl, rfl, Nat.le_of_ble_eq_true rfl, Nat.le_of_ble_eq_true rfl⟩ rfl rfl rfl rfl rfl (by omega) (by omega) dL_law_983 ?_
  show LSim G b L xs ao 986 _ [.int r, .int r] hc' hm' ov cells slots
  refine L_icmp_eq_t (t := 1737) dL_law_986 rfl rfl ?_
  exact hnext hc' hm' ov cells slots hR' (by omega) (by omega)
set_option maxRecDepth 20000 in
set_option maxHeartbeats 2000000 in
theorem cs_orders (G : JG) (b L : Nat) (xs : Nat → Int32) (ao k : Nat) (hL : L ≤ 3072) (hk : 6 * k + 6 ≤ L) (Rel : AH → AH → Prop) (hS : so_orders Rel) (hnext : ∀ (hc hm : AH) (ov : Nat → Int64) (cells slots : Nat), Rel hc hm → cells ≤ 105 + (k + 1) → slots ≤ 42664 + 6 * (k + 1) → LSim G b L xs ao 1737 [(0, .ref b), (1, .ref (G.ad 0 0)), (2, .ref (G.ad 32 0)), (3, .ref ao), (4, .int (nI (6 * k)))] [] hc hm ov cells slots) (hc hm : AH) (ov : Nat → Int64) (cells slots : Nat) (hR : Rel hc hm) (hcs : cells ≤ 105 + k) (hss : slots ≤ 42664 + 6 * k) : LSim G b L xs ao 991 [(0, .ref b), (1, .ref (G.ad 0 0)), (2, .ref (G.ad 32 0)), (3, .ref ao), (4, .int (nI (6 * k)))] [] hc hm ov cells slots := by
  obtain ⟨r, hc', hm', h1, h2, hR'⟩ := hS hc hm hR 
  refine L_aload_n dL_law_991 rfl 1 rfl ?_
  refine L_call0 (As := []) (rest := []) h1 (sX_orders G hc) ck_X8_orders lk_L_115 ⟨rfl, rfl, Nat.le_of_ble_eq_true rfl, Nat.le_of_ble_eq_true rfl⟩ rfl rfl rfl rfl rfl (by omega) (by omega) dL_law_992 ?_
  show LSim G b L xs ao 995 _ [.long r] hc' hm ov cells slots
  refine L_aload_n dL_law_995 rfl 2 rfl ?_
  refine L_call1 (As := []) (rest := [.long r]) h2 (sM_orders G hm) ck_X9_orders lk_L_119 ⟨rfl, rfl, Nat.le_of_ble_eq_true rfl, Nat.le_of_ble_eq_true rfl⟩ rfl rfl rfl rfl rfl (by omega) (by omega) dL_law_996 ?_
  show LSim G b L xs ao 999 _ [.long r, .long r] hc' hm' ov cells slots
  refine L_lcmp dL_law_999 ?_
  refine L_if_eq_t (t := 1737) dL_law_1000 rfl (lg_cmp_self r) ?_
  exact hnext hc' hm' ov cells slots hR' (by omega) (by omega)
set_option maxRecDepth 20000 in
set_option maxHeartbeats 2000000 in
theorem cs_placed (G : JG) (b L : Nat) (xs : Nat → Int32) (ao k : Nat) (hL : L ≤ 3072) (hk : 6 * k + 6 ≤ L) (Rel : AH → AH → Prop) (hS : so_placed Rel) (hnext : ∀ (hc hm : AH) (ov : Nat → Int64) (cells slots : Nat), Rel hc hm → cells ≤ 105 + (k + 1) → slots ≤ 42664 + 6 * (k + 1) → LSim G b L xs ao 1737 [(0, .ref b), (1, .ref (G.ad 0 0)), (2, .ref (G.ad 32 0)), (3, .ref ao), (4, .int (nI (6 * k)))] [] hc hm ov cells slots) (hc hm : AH) (ov : Nat → Int64) (cells slots : Nat) (hR : Rel hc hm) (hcs : cells ≤ 105 + k) (hss : slots ≤ 42664 + 6 * k) : LSim G b L xs ao 1005 [(0, .ref b), (1, .ref (G.ad 0 0)), (2, .ref (G.ad 32 0)), (3, .ref ao), (4, .int (nI (6 * k)))] [] hc hm ov cells slots := by
  by_cases hz : xs (6 * k + 2) = 0
  · obtain ⟨r, hc', hm', h1, h2, hR'⟩ := hS hc hm hR (xs (6 * k + 1)) 0 (Or.inl rfl)
    refine L_aload_n dL_law_1005 rfl 1 rfl ?_
    refine L_aload_n dL_law_1006 rfl 0 rfl ?_
    refine L_iload dL_law_1007 4 rfl ?_
    refine L_iconst (v := 1) dL_law_1009 rfl ?_
    refine L_iadd dL_law_1010 ?_
    refine L_sld (j := 6 * k + 1) (nI_add (6 * k) 1) (by omega) hL dL_law_1011 ?_
    refine L_aload_n dL_law_1012 rfl 0 rfl ?_
    refine L_iload dL_law_1013 4 rfl ?_
    refine L_iconst (v := 2) dL_law_1015 rfl ?_
    refine L_iadd dL_law_1016 ?_
    refine L_sld (j := 6 * k + 2) (nI_add (6 * k) 2) (by omega) hL dL_law_1017 ?_
    refine L_if_eq_t (t := 1025) dL_law_1018 rfl hz ?_
    refine L_iconst (v := 0) dL_law_1025 rfl ?_
    refine L_call0 (As := [.int (xs (6 * k + 1)), .int 0]) (rest := []) h1 (sX_placed G hc (xs (6 * k + 1)) 0) ck_X8_placed lk_L_120 ⟨rfl, rfl, Nat.le_of_ble_eq_true rfl, Nat.le_of_ble_eq_true rfl⟩ rfl rfl rfl rfl rfl (by omega) (by omega) dL_law_1026 ?_
    show LSim G b L xs ao 1029 _ [.int r] hc' hm ov cells slots
    refine L_aload_n dL_law_1029 rfl 2 rfl ?_
    refine L_aload_n dL_law_1030 rfl 0 rfl ?_
    refine L_iload dL_law_1031 4 rfl ?_
    refine L_iconst (v := 1) dL_law_1033 rfl ?_
    refine L_iadd dL_law_1034 ?_
    refine L_sld (j := 6 * k + 1) (nI_add (6 * k) 1) (by omega) hL dL_law_1035 ?_
    refine L_aload_n dL_law_1036 rfl 0 rfl ?_
    refine L_iload dL_law_1037 4 rfl ?_
    refine L_iconst (v := 2) dL_law_1039 rfl ?_
    refine L_iadd dL_law_1040 ?_
    refine L_sld (j := 6 * k + 2) (nI_add (6 * k) 2) (by omega) hL dL_law_1041 ?_
    refine L_if_eq_t (t := 1049) dL_law_1042 rfl hz ?_
    refine L_iconst (v := 0) dL_law_1049 rfl ?_
    refine L_call1 (As := [.int (xs (6 * k + 1)), .int 0]) (rest := [.int r]) h2 (sM_placed G hm (xs (6 * k + 1)) 0) ck_X9_placed lk_L_124 ⟨rfl, rfl, Nat.le_of_ble_eq_true rfl, Nat.le_of_ble_eq_true rfl⟩ rfl rfl rfl rfl rfl (by omega) (by omega) dL_law_1050 ?_
    show LSim G b L xs ao 1053 _ [.int r, .int r] hc' hm' ov cells slots
    refine L_icmp_eq_t (t := 1737) dL_law_1053 rfl rfl ?_
    exact hnext hc' hm' ov cells slots hR' (by omega) (by omega)
  · obtain ⟨r, hc', hm', h1, h2, hR'⟩ := hS hc hm hR (xs (6 * k + 1)) 1 (Or.inr rfl)
    refine L_aload_n dL_law_1005 rfl 1 rfl ?_
    refine L_aload_n dL_law_1006 rfl 0 rfl ?_
    refine L_iload dL_law_1007 4 rfl ?_
    refine L_iconst (v := 1) dL_law_1009 rfl ?_
    refine L_iadd dL_law_1010 ?_
    refine L_sld (j := 6 * k + 1) (nI_add (6 * k) 1) (by omega) hL dL_law_1011 ?_
    refine L_aload_n dL_law_1012 rfl 0 rfl ?_
    refine L_iload dL_law_1013 4 rfl ?_
    refine L_iconst (v := 2) dL_law_1015 rfl ?_
    refine L_iadd dL_law_1016 ?_
    refine L_sld (j := 6 * k + 2) (nI_add (6 * k) 2) (by omega) hL dL_law_1017 ?_
    refine L_if_eq_f (t := 1025) dL_law_1018 rfl hz ?_
    refine L_iconst (v := 1) dL_law_1021 rfl ?_
    refine L_goto (t := 1026) dL_law_1022 rfl ?_
    refine L_call0 (As := [.int (xs (6 * k + 1)), .int 1]) (rest := []) h1 (sX_placed G hc (xs (6 * k + 1)) 1) ck_X8_placed lk_L_120 ⟨rfl, rfl, Nat.le_of_ble_eq_true rfl, Nat.le_of_ble_eq_true rfl⟩ rfl rfl rfl rfl rfl (by omega) (by omega) dL_law_1026 ?_
    show LSim G b L xs ao 1029 _ [.int r] hc' hm ov cells slots
    refine L_aload_n dL_law_1029 rfl 2 rfl ?_
    refine L_aload_n dL_law_1030 rfl 0 rfl ?_
    refine L_iload dL_law_1031 4 rfl ?_
    refine L_iconst (v := 1) dL_law_1033 rfl ?_
    refine L_iadd dL_law_1034 ?_
    refine L_sld (j := 6 * k + 1) (nI_add (6 * k) 1) (by omega) hL dL_law_1035 ?_
    refine L_aload_n dL_law_1036 rfl 0 rfl ?_
    refine L_iload dL_law_1037 4 rfl ?_
    refine L_iconst (v := 2) dL_law_1039 rfl ?_
    refine L_iadd dL_law_1040 ?_
    refine L_sld (j := 6 * k + 2) (nI_add (6 * k) 2) (by omega) hL dL_law_1041 ?_
    refine L_if_eq_f (t := 1049) dL_law_1042 rfl hz ?_
    refine L_iconst (v := 1) dL_law_1045 rfl ?_
    refine L_goto (t := 1050) dL_law_1046 rfl ?_
    refine L_call1 (As := [.int (xs (6 * k + 1)), .int 1]) (rest := [.int r]) h2 (sM_placed G hm (xs (6 * k + 1)) 1) ck_X9_placed lk_L_124 ⟨rfl, rfl, Nat.le_of_ble_eq_true rfl, Nat.le_of_ble_eq_true rfl⟩ rfl rfl rfl rfl rfl (by omega) (by omega) dL_law_1050 ?_
    show LSim G b L xs ao 1053 _ [.int r, .int r] hc' hm' ov cells slots
    refine L_icmp_eq_t (t := 1737) dL_law_1053 rfl rfl ?_
    exact hnext hc' hm' ov cells slots hR' (by omega) (by omega)
set_option maxRecDepth 20000 in
set_option maxHeartbeats 2000000 in
theorem cs_ahead (G : JG) (b L : Nat) (xs : Nat → Int32) (ao k : Nat) (hL : L ≤ 3072) (hk : 6 * k + 6 ≤ L) (Rel : AH → AH → Prop) (hS : so_ahead Rel) (hnext : ∀ (hc hm : AH) (ov : Nat → Int64) (cells slots : Nat), Rel hc hm → cells ≤ 105 + (k + 1) → slots ≤ 42664 + 6 * (k + 1) → LSim G b L xs ao 1737 [(0, .ref b), (1, .ref (G.ad 0 0)), (2, .ref (G.ad 32 0)), (3, .ref ao), (4, .int (nI (6 * k)))] [] hc hm ov cells slots) (hc hm : AH) (ov : Nat → Int64) (cells slots : Nat) (hR : Rel hc hm) (hcs : cells ≤ 105 + k) (hss : slots ≤ 42664 + 6 * k) : LSim G b L xs ao 1058 [(0, .ref b), (1, .ref (G.ad 0 0)), (2, .ref (G.ad 32 0)), (3, .ref ao), (4, .int (nI (6 * k)))] [] hc hm ov cells slots := by
  obtain ⟨r, hc', hm', h1, h2, hR'⟩ := hS hc hm hR (xs (6 * k + 1)) (xs (6 * k + 2))
  refine L_aload_n dL_law_1058 rfl 1 rfl ?_
  refine L_aload_n dL_law_1059 rfl 0 rfl ?_
  refine L_iload dL_law_1060 4 rfl ?_
  refine L_iconst (v := 1) dL_law_1062 rfl ?_
  refine L_iadd dL_law_1063 ?_
  refine L_sld (j := 6 * k + 1) (nI_add (6 * k) 1) (by omega) hL dL_law_1064 ?_
  refine L_aload_n dL_law_1065 rfl 0 rfl ?_
  refine L_iload dL_law_1066 4 rfl ?_
  refine L_iconst (v := 2) dL_law_1068 rfl ?_
  refine L_iadd dL_law_1069 ?_
  refine L_sld (j := 6 * k + 2) (nI_add (6 * k) 2) (by omega) hL dL_law_1070 ?_
  refine L_call0 (As := [.int (xs (6 * k + 1)), .int (xs (6 * k + 2))]) (rest := []) h1 (sX_ahead G hc (xs (6 * k + 1)) (xs (6 * k + 2))) ck_X8_ahead lk_L_125 ⟨rfl, rfl, Nat.le_of_ble_eq_true rfl, Nat.le_of_ble_eq_true rfl⟩ rfl rfl rfl rfl rfl (by omega) (by omega) dL_law_1071 ?_
  show LSim G b L xs ao 1074 _ [.long r] hc' hm ov cells slots
  refine L_aload_n dL_law_1074 rfl 2 rfl ?_
  refine L_aload_n dL_law_1075 rfl 0 rfl ?_
  refine L_iload dL_law_1076 4 rfl ?_
  refine L_iconst (v := 1) dL_law_1078 rfl ?_
  refine L_iadd dL_law_1079 ?_
  refine L_sld (j := 6 * k + 1) (nI_add (6 * k) 1) (by omega) hL dL_law_1080 ?_
  refine L_aload_n dL_law_1081 rfl 0 rfl ?_
  refine L_iload dL_law_1082 4 rfl ?_
  refine L_iconst (v := 2) dL_law_1084 rfl ?_
  refine L_iadd dL_law_1085 ?_
  refine L_sld (j := 6 * k + 2) (nI_add (6 * k) 2) (by omega) hL dL_law_1086 ?_
  refine L_call1 (As := [.int (xs (6 * k + 1)), .int (xs (6 * k + 2))]) (rest := [.long r]) h2 (sM_ahead G hm (xs (6 * k + 1)) (xs (6 * k + 2))) ck_X9_ahead lk_L_129 ⟨rfl, rfl, Nat.le_of_ble_eq_true rfl, Nat.le_of_ble_eq_true rfl⟩ rfl rfl rfl rfl rfl (by omega) (by omega) dL_law_1087 ?_
  show LSim G b L xs ao 1090 _ [.long r, .long r] hc' hm' ov cells slots
  refine L_lcmp dL_law_1090 ?_
  refine L_if_eq_t (t := 1737) dL_law_1091 rfl (lg_cmp_self r) ?_
  exact hnext hc' hm' ov cells slots hR' (by omega) (by omega)
set_option maxRecDepth 20000 in
set_option maxHeartbeats 2000000 in
theorem cs_wanted (G : JG) (b L : Nat) (xs : Nat → Int32) (ao k : Nat) (hL : L ≤ 3072) (hk : 6 * k + 6 ≤ L) (Rel : AH → AH → Prop) (hS : so_wanted Rel) (hnext : ∀ (hc hm : AH) (ov : Nat → Int64) (cells slots : Nat), Rel hc hm → cells ≤ 105 + (k + 1) → slots ≤ 42664 + 6 * (k + 1) → LSim G b L xs ao 1737 [(0, .ref b), (1, .ref (G.ad 0 0)), (2, .ref (G.ad 32 0)), (3, .ref ao), (4, .int (nI (6 * k)))] [] hc hm ov cells slots) (hc hm : AH) (ov : Nat → Int64) (cells slots : Nat) (hR : Rel hc hm) (hcs : cells ≤ 105 + k) (hss : slots ≤ 42664 + 6 * k) : LSim G b L xs ao 1096 [(0, .ref b), (1, .ref (G.ad 0 0)), (2, .ref (G.ad 32 0)), (3, .ref ao), (4, .int (nI (6 * k)))] [] hc hm ov cells slots := by
  obtain ⟨r, hc', hm', h1, h2, hR'⟩ := hS hc hm hR (xs (6 * k + 1)) (xs (6 * k + 2))
  refine L_aload_n dL_law_1096 rfl 1 rfl ?_
  refine L_aload_n dL_law_1097 rfl 0 rfl ?_
  refine L_iload dL_law_1098 4 rfl ?_
  refine L_iconst (v := 1) dL_law_1100 rfl ?_
  refine L_iadd dL_law_1101 ?_
  refine L_sld (j := 6 * k + 1) (nI_add (6 * k) 1) (by omega) hL dL_law_1102 ?_
  refine L_aload_n dL_law_1103 rfl 0 rfl ?_
  refine L_iload dL_law_1104 4 rfl ?_
  refine L_iconst (v := 2) dL_law_1106 rfl ?_
  refine L_iadd dL_law_1107 ?_
  refine L_sld (j := 6 * k + 2) (nI_add (6 * k) 2) (by omega) hL dL_law_1108 ?_
  refine L_call0 (As := [.int (xs (6 * k + 1)), .int (xs (6 * k + 2))]) (rest := []) h1 (sX_wanted G hc (xs (6 * k + 1)) (xs (6 * k + 2))) ck_X8_wanted lk_L_130 ⟨rfl, rfl, Nat.le_of_ble_eq_true rfl, Nat.le_of_ble_eq_true rfl⟩ rfl rfl rfl rfl rfl (by omega) (by omega) dL_law_1109 ?_
  show LSim G b L xs ao 1112 _ [.int r] hc' hm ov cells slots
  refine L_aload_n dL_law_1112 rfl 2 rfl ?_
  refine L_aload_n dL_law_1113 rfl 0 rfl ?_
  refine L_iload dL_law_1114 4 rfl ?_
  refine L_iconst (v := 1) dL_law_1116 rfl ?_
  refine L_iadd dL_law_1117 ?_
  refine L_sld (j := 6 * k + 1) (nI_add (6 * k) 1) (by omega) hL dL_law_1118 ?_
  refine L_aload_n dL_law_1119 rfl 0 rfl ?_
  refine L_iload dL_law_1120 4 rfl ?_
  refine L_iconst (v := 2) dL_law_1122 rfl ?_
  refine L_iadd dL_law_1123 ?_
  refine L_sld (j := 6 * k + 2) (nI_add (6 * k) 2) (by omega) hL dL_law_1124 ?_
  refine L_call1 (As := [.int (xs (6 * k + 1)), .int (xs (6 * k + 2))]) (rest := [.int r]) h2 (sM_wanted G hm (xs (6 * k + 1)) (xs (6 * k + 2))) ck_X9_wanted lk_L_133 ⟨rfl, rfl, Nat.le_of_ble_eq_true rfl, Nat.le_of_ble_eq_true rfl⟩ rfl rfl rfl rfl rfl (by omega) (by omega) dL_law_1125 ?_
  show LSim G b L xs ao 1128 _ [.int r, .int r] hc' hm' ov cells slots
  refine L_icmp_eq_t (t := 1737) dL_law_1128 rfl rfl ?_
  exact hnext hc' hm' ov cells slots hR' (by omega) (by omega)
set_option maxRecDepth 20000 in
set_option maxHeartbeats 2000000 in
theorem cs_alike (G : JG) (b L : Nat) (xs : Nat → Int32) (ao k : Nat) (hL : L ≤ 3072) (hk : 6 * k + 6 ≤ L) (Rel : AH → AH → Prop) (hS : so_alike Rel) (hnext : ∀ (hc hm : AH) (ov : Nat → Int64) (cells slots : Nat), Rel hc hm → cells ≤ 105 + (k + 1) → slots ≤ 42664 + 6 * (k + 1) → LSim G b L xs ao 1737 [(0, .ref b), (1, .ref (G.ad 0 0)), (2, .ref (G.ad 32 0)), (3, .ref ao), (4, .int (nI (6 * k)))] [] hc hm ov cells slots) (hc hm : AH) (ov : Nat → Int64) (cells slots : Nat) (hR : Rel hc hm) (hcs : cells ≤ 105 + k) (hss : slots ≤ 42664 + 6 * k) : LSim G b L xs ao 1133 [(0, .ref b), (1, .ref (G.ad 0 0)), (2, .ref (G.ad 32 0)), (3, .ref ao), (4, .int (nI (6 * k)))] [] hc hm ov cells slots := by
  obtain ⟨r, hc', hm', h1, h2, hR'⟩ := hS hc hm hR 
  refine L_aload_n dL_law_1133 rfl 1 rfl ?_
  refine L_call0 (As := []) (rest := []) h1 (sX_alike G hc) ck_X8_alike lk_L_134 ⟨rfl, rfl, Nat.le_of_ble_eq_true rfl, Nat.le_of_ble_eq_true rfl⟩ rfl rfl rfl rfl rfl (by omega) (by omega) dL_law_1134 ?_
  show LSim G b L xs ao 1137 _ [.int r] hc' hm ov cells slots
  refine L_aload_n dL_law_1137 rfl 2 rfl ?_
  refine L_call1 (As := []) (rest := [.int r]) h2 (sM_alike G hm) ck_X9_alike lk_L_137 ⟨rfl, rfl, Nat.le_of_ble_eq_true rfl, Nat.le_of_ble_eq_true rfl⟩ rfl rfl rfl rfl rfl (by omega) (by omega) dL_law_1138 ?_
  show LSim G b L xs ao 1141 _ [.int r, .int r] hc' hm' ov cells slots
  refine L_icmp_eq_t (t := 1737) dL_law_1141 rfl rfl ?_
  exact hnext hc' hm' ov cells slots hR' (by omega) (by omega)
set_option maxRecDepth 20000 in
set_option maxHeartbeats 2000000 in
theorem cs_best (G : JG) (b L : Nat) (xs : Nat → Int32) (ao k : Nat) (hL : L ≤ 3072) (hk : 6 * k + 6 ≤ L) (Rel : AH → AH → Prop) (hS : so_best Rel) (hnext : ∀ (hc hm : AH) (ov : Nat → Int64) (cells slots : Nat), Rel hc hm → cells ≤ 105 + (k + 1) → slots ≤ 42664 + 6 * (k + 1) → LSim G b L xs ao 1737 [(0, .ref b), (1, .ref (G.ad 0 0)), (2, .ref (G.ad 32 0)), (3, .ref ao), (4, .int (nI (6 * k)))] [] hc hm ov cells slots) (hc hm : AH) (ov : Nat → Int64) (cells slots : Nat) (hR : Rel hc hm) (hcs : cells ≤ 105 + k) (hss : slots ≤ 42664 + 6 * k) : LSim G b L xs ao 1146 [(0, .ref b), (1, .ref (G.ad 0 0)), (2, .ref (G.ad 32 0)), (3, .ref ao), (4, .int (nI (6 * k)))] [] hc hm ov cells slots := by
  obtain ⟨r, hc', hm', h1, h2, hR'⟩ := hS hc hm hR (xs (6 * k + 1)) (xs (6 * k + 2))
  refine L_aload_n dL_law_1146 rfl 1 rfl ?_
  refine L_aload_n dL_law_1147 rfl 0 rfl ?_
  refine L_iload dL_law_1148 4 rfl ?_
  refine L_iconst (v := 1) dL_law_1150 rfl ?_
  refine L_iadd dL_law_1151 ?_
  refine L_sld (j := 6 * k + 1) (nI_add (6 * k) 1) (by omega) hL dL_law_1152 ?_
  refine L_aload_n dL_law_1153 rfl 0 rfl ?_
  refine L_iload dL_law_1154 4 rfl ?_
  refine L_iconst (v := 2) dL_law_1156 rfl ?_
  refine L_iadd dL_law_1157 ?_
  refine L_sld (j := 6 * k + 2) (nI_add (6 * k) 2) (by omega) hL dL_law_1158 ?_
  refine L_call0 (As := [.int (xs (6 * k + 1)), .int (xs (6 * k + 2))]) (rest := []) h1 (sX_best G hc (xs (6 * k + 1)) (xs (6 * k + 2))) ck_X8_best lk_L_138 ⟨rfl, rfl, Nat.le_of_ble_eq_true rfl, Nat.le_of_ble_eq_true rfl⟩ rfl rfl rfl rfl rfl (by omega) (by omega) dL_law_1159 ?_
  show LSim G b L xs ao 1162 _ [.int r] hc' hm ov cells slots
  refine L_aload_n dL_law_1162 rfl 2 rfl ?_
  refine L_aload_n dL_law_1163 rfl 0 rfl ?_
  refine L_iload dL_law_1164 4 rfl ?_
  refine L_iconst (v := 1) dL_law_1166 rfl ?_
  refine L_iadd dL_law_1167 ?_
  refine L_sld (j := 6 * k + 1) (nI_add (6 * k) 1) (by omega) hL dL_law_1168 ?_
  refine L_aload_n dL_law_1169 rfl 0 rfl ?_
  refine L_iload dL_law_1170 4 rfl ?_
  refine L_iconst (v := 2) dL_law_1172 rfl ?_
  refine L_iadd dL_law_1173 ?_
  refine L_sld (j := 6 * k + 2) (nI_add (6 * k) 2) (by omega) hL dL_law_1174 ?_
  refine L_call1 (As := [.int (xs (6 * k + 1)), .int (xs (6 * k + 2))]) (rest := [.int r]) h2 (sM_best G hm (xs (6 * k + 1)) (xs (6 * k + 2))) ck_X9_best lk_L_141 ⟨rfl, rfl, Nat.le_of_ble_eq_true rfl, Nat.le_of_ble_eq_true rfl⟩ rfl rfl rfl rfl rfl (by omega) (by omega) dL_law_1175 ?_
  show LSim G b L xs ao 1178 _ [.int r, .int r] hc' hm' ov cells slots
  refine L_icmp_eq_t (t := 1737) dL_law_1178 rfl rfl ?_
  exact hnext hc' hm' ov cells slots hR' (by omega) (by omega)
set_option maxRecDepth 20000 in
set_option maxHeartbeats 2000000 in
theorem cs_need (G : JG) (b L : Nat) (xs : Nat → Int32) (ao k : Nat) (hL : L ≤ 3072) (hk : 6 * k + 6 ≤ L) (Rel : AH → AH → Prop) (hS : so_need Rel) (hnext : ∀ (hc hm : AH) (ov : Nat → Int64) (cells slots : Nat), Rel hc hm → cells ≤ 105 + (k + 1) → slots ≤ 42664 + 6 * (k + 1) → LSim G b L xs ao 1737 [(0, .ref b), (1, .ref (G.ad 0 0)), (2, .ref (G.ad 32 0)), (3, .ref ao), (4, .int (nI (6 * k)))] [] hc hm ov cells slots) (hc hm : AH) (ov : Nat → Int64) (cells slots : Nat) (hR : Rel hc hm) (hcs : cells ≤ 105 + k) (hss : slots ≤ 42664 + 6 * k) : LSim G b L xs ao 1183 [(0, .ref b), (1, .ref (G.ad 0 0)), (2, .ref (G.ad 32 0)), (3, .ref ao), (4, .int (nI (6 * k)))] [] hc hm ov cells slots := by
  obtain ⟨r, hc', hm', h1, h2, hR'⟩ := hS hc hm hR (xs (6 * k + 1))
  refine L_aload_n dL_law_1183 rfl 1 rfl ?_
  refine L_aload_n dL_law_1184 rfl 0 rfl ?_
  refine L_iload dL_law_1185 4 rfl ?_
  refine L_iconst (v := 1) dL_law_1187 rfl ?_
  refine L_iadd dL_law_1188 ?_
  refine L_sld (j := 6 * k + 1) (nI_add (6 * k) 1) (by omega) hL dL_law_1189 ?_
  refine L_call0 (As := [.int (xs (6 * k + 1))]) (rest := []) h1 (sX_need G hc (xs (6 * k + 1))) ck_X8_need lk_L_142 ⟨rfl, rfl, Nat.le_of_ble_eq_true rfl, Nat.le_of_ble_eq_true rfl⟩ rfl rfl rfl rfl rfl (by omega) (by omega) dL_law_1190 ?_
  show LSim G b L xs ao 1193 _ [.int r] hc' hm ov cells slots
  refine L_aload_n dL_law_1193 rfl 2 rfl ?_
  refine L_aload_n dL_law_1194 rfl 0 rfl ?_
  refine L_iload dL_law_1195 4 rfl ?_
  refine L_iconst (v := 1) dL_law_1197 rfl ?_
  refine L_iadd dL_law_1198 ?_
  refine L_sld (j := 6 * k + 1) (nI_add (6 * k) 1) (by omega) hL dL_law_1199 ?_
  refine L_call1 (As := [.int (xs (6 * k + 1))]) (rest := [.int r]) h2 (sM_need G hm (xs (6 * k + 1))) ck_X9_need lk_L_145 ⟨rfl, rfl, Nat.le_of_ble_eq_true rfl, Nat.le_of_ble_eq_true rfl⟩ rfl rfl rfl rfl rfl (by omega) (by omega) dL_law_1200 ?_
  show LSim G b L xs ao 1203 _ [.int r, .int r] hc' hm' ov cells slots
  refine L_icmp_eq_t (t := 1737) dL_law_1203 rfl rfl ?_
  exact hnext hc' hm' ov cells slots hR' (by omega) (by omega)
set_option maxRecDepth 20000 in
set_option maxHeartbeats 2000000 in
theorem cs_step (G : JG) (b L : Nat) (xs : Nat → Int32) (ao k : Nat) (hL : L ≤ 3072) (hk : 6 * k + 6 ≤ L) (Rel : AH → AH → Prop) (hS : so_step Rel) (hnext : ∀ (hc hm : AH) (ov : Nat → Int64) (cells slots : Nat), Rel hc hm → cells ≤ 105 + (k + 1) → slots ≤ 42664 + 6 * (k + 1) → LSim G b L xs ao 1737 [(0, .ref b), (1, .ref (G.ad 0 0)), (2, .ref (G.ad 32 0)), (3, .ref ao), (4, .int (nI (6 * k)))] [] hc hm ov cells slots) (hc hm : AH) (ov : Nat → Int64) (cells slots : Nat) (hR : Rel hc hm) (hcs : cells ≤ 105 + k) (hss : slots ≤ 42664 + 6 * k) : LSim G b L xs ao 1208 [(0, .ref b), (1, .ref (G.ad 0 0)), (2, .ref (G.ad 32 0)), (3, .ref ao), (4, .int (nI (6 * k)))] [] hc hm ov cells slots := by
  obtain ⟨r, hc', hm', h1, h2, hR'⟩ := hS hc hm hR (xs (6 * k + 1)) (xs (6 * k + 2))
  refine L_aload_n dL_law_1208 rfl 1 rfl ?_
  refine L_aload_n dL_law_1209 rfl 0 rfl ?_
  refine L_iload dL_law_1210 4 rfl ?_
  refine L_iconst (v := 1) dL_law_1212 rfl ?_
  refine L_iadd dL_law_1213 ?_
  refine L_sld (j := 6 * k + 1) (nI_add (6 * k) 1) (by omega) hL dL_law_1214 ?_
  refine L_aload_n dL_law_1215 rfl 0 rfl ?_
  refine L_iload dL_law_1216 4 rfl ?_
  refine L_iconst (v := 2) dL_law_1218 rfl ?_
  refine L_iadd dL_law_1219 ?_
  refine L_sld (j := 6 * k + 2) (nI_add (6 * k) 2) (by omega) hL dL_law_1220 ?_
  refine L_call0 (As := [.int (xs (6 * k + 1)), .int (xs (6 * k + 2))]) (rest := []) h1 (sX_step G hc (xs (6 * k + 1)) (xs (6 * k + 2))) ck_X8_step lk_L_146 ⟨rfl, rfl, Nat.le_of_ble_eq_true rfl, Nat.le_of_ble_eq_true rfl⟩ rfl rfl rfl rfl rfl (by omega) (by omega) dL_law_1221 ?_
  show LSim G b L xs ao 1224 _ [.int r] hc' hm ov cells slots
  refine L_aload_n dL_law_1224 rfl 2 rfl ?_
  refine L_aload_n dL_law_1225 rfl 0 rfl ?_
  refine L_iload dL_law_1226 4 rfl ?_
  refine L_iconst (v := 1) dL_law_1228 rfl ?_
  refine L_iadd dL_law_1229 ?_
  refine L_sld (j := 6 * k + 1) (nI_add (6 * k) 1) (by omega) hL dL_law_1230 ?_
  refine L_aload_n dL_law_1231 rfl 0 rfl ?_
  refine L_iload dL_law_1232 4 rfl ?_
  refine L_iconst (v := 2) dL_law_1234 rfl ?_
  refine L_iadd dL_law_1235 ?_
  refine L_sld (j := 6 * k + 2) (nI_add (6 * k) 2) (by omega) hL dL_law_1236 ?_
  refine L_call1 (As := [.int (xs (6 * k + 1)), .int (xs (6 * k + 2))]) (rest := [.int r]) h2 (sM_step G hm (xs (6 * k + 1)) (xs (6 * k + 2))) ck_X9_step lk_L_149 ⟨rfl, rfl, Nat.le_of_ble_eq_true rfl, Nat.le_of_ble_eq_true rfl⟩ rfl rfl rfl rfl rfl (by omega) (by omega) dL_law_1237 ?_
  show LSim G b L xs ao 1240 _ [.int r, .int r] hc' hm' ov cells slots
  refine L_icmp_eq_t (t := 1737) dL_law_1240 rfl rfl ?_
  exact hnext hc' hm' ov cells slots hR' (by omega) (by omega)
set_option maxRecDepth 20000 in
set_option maxHeartbeats 2000000 in
theorem cs_reach (G : JG) (b L : Nat) (xs : Nat → Int32) (ao k : Nat) (hL : L ≤ 3072) (hk : 6 * k + 6 ≤ L) (Rel : AH → AH → Prop) (hS : so_reach Rel) (hnext : ∀ (hc hm : AH) (ov : Nat → Int64) (cells slots : Nat), Rel hc hm → cells ≤ 105 + (k + 1) → slots ≤ 42664 + 6 * (k + 1) → LSim G b L xs ao 1737 [(0, .ref b), (1, .ref (G.ad 0 0)), (2, .ref (G.ad 32 0)), (3, .ref ao), (4, .int (nI (6 * k)))] [] hc hm ov cells slots) (hc hm : AH) (ov : Nat → Int64) (cells slots : Nat) (hR : Rel hc hm) (hcs : cells ≤ 105 + k) (hss : slots ≤ 42664 + 6 * k) : LSim G b L xs ao 1245 [(0, .ref b), (1, .ref (G.ad 0 0)), (2, .ref (G.ad 32 0)), (3, .ref ao), (4, .int (nI (6 * k)))] [] hc hm ov cells slots := by
  obtain ⟨r, hc', hm', h1, h2, hR'⟩ := hS hc hm hR (xs (6 * k + 1))
  refine L_aload_n dL_law_1245 rfl 1 rfl ?_
  refine L_aload_n dL_law_1246 rfl 0 rfl ?_
  refine L_iload dL_law_1247 4 rfl ?_
  refine L_iconst (v := 1) dL_law_1249 rfl ?_
  refine L_iadd dL_law_1250 ?_
  refine L_sld (j := 6 * k + 1) (nI_add (6 * k) 1) (by omega) hL dL_law_1251 ?_
  refine L_call0 (As := [.int (xs (6 * k + 1))]) (rest := []) h1 (sX_reach G hc (xs (6 * k + 1))) ck_X8_reach lk_L_150 ⟨rfl, rfl, Nat.le_of_ble_eq_true rfl, Nat.le_of_ble_eq_true rfl⟩ rfl rfl rfl rfl rfl (by omega) (by omega) dL_law_1252 ?_
  show LSim G b L xs ao 1255 _ [.int r] hc' hm ov cells slots
  refine L_aload_n dL_law_1255 rfl 2 rfl ?_
  refine L_aload_n dL_law_1256 rfl 0 rfl ?_
  refine L_iload dL_law_1257 4 rfl ?_
  refine L_iconst (v := 1) dL_law_1259 rfl ?_
  refine L_iadd dL_law_1260 ?_
  refine L_sld (j := 6 * k + 1) (nI_add (6 * k) 1) (by omega) hL dL_law_1261 ?_
  refine L_call1 (As := [.int (xs (6 * k + 1))]) (rest := [.int r]) h2 (sM_reach G hm (xs (6 * k + 1))) ck_X9_reach lk_L_153 ⟨rfl, rfl, Nat.le_of_ble_eq_true rfl, Nat.le_of_ble_eq_true rfl⟩ rfl rfl rfl rfl rfl (by omega) (by omega) dL_law_1262 ?_
  show LSim G b L xs ao 1265 _ [.int r, .int r] hc' hm' ov cells slots
  refine L_icmp_eq_t (t := 1737) dL_law_1265 rfl rfl ?_
  exact hnext hc' hm' ov cells slots hR' (by omega) (by omega)
set_option maxRecDepth 20000 in
set_option maxHeartbeats 2000000 in
theorem cs_least (G : JG) (b L : Nat) (xs : Nat → Int32) (ao k : Nat) (hL : L ≤ 3072) (hk : 6 * k + 6 ≤ L) (Rel : AH → AH → Prop) (hS : so_least Rel) (hnext : ∀ (hc hm : AH) (ov : Nat → Int64) (cells slots : Nat), Rel hc hm → cells ≤ 105 + (k + 1) → slots ≤ 42664 + 6 * (k + 1) → LSim G b L xs ao 1737 [(0, .ref b), (1, .ref (G.ad 0 0)), (2, .ref (G.ad 32 0)), (3, .ref ao), (4, .int (nI (6 * k)))] [] hc hm ov cells slots) (hc hm : AH) (ov : Nat → Int64) (cells slots : Nat) (hR : Rel hc hm) (hcs : cells ≤ 105 + k) (hss : slots ≤ 42664 + 6 * k) : LSim G b L xs ao 1270 [(0, .ref b), (1, .ref (G.ad 0 0)), (2, .ref (G.ad 32 0)), (3, .ref ao), (4, .int (nI (6 * k)))] [] hc hm ov cells slots := by
  obtain ⟨r, hc', hm', h1, h2, hR'⟩ := hS hc hm hR (xs (6 * k + 1)) (xs (6 * k + 2))
  refine L_aload_n dL_law_1270 rfl 1 rfl ?_
  refine L_aload_n dL_law_1271 rfl 0 rfl ?_
  refine L_iload dL_law_1272 4 rfl ?_
  refine L_iconst (v := 1) dL_law_1274 rfl ?_
  refine L_iadd dL_law_1275 ?_
  refine L_sld (j := 6 * k + 1) (nI_add (6 * k) 1) (by omega) hL dL_law_1276 ?_
  refine L_aload_n dL_law_1277 rfl 0 rfl ?_
  refine L_iload dL_law_1278 4 rfl ?_
  refine L_iconst (v := 2) dL_law_1280 rfl ?_
  refine L_iadd dL_law_1281 ?_
  refine L_sld (j := 6 * k + 2) (nI_add (6 * k) 2) (by omega) hL dL_law_1282 ?_
  refine L_call0 (As := [.int (xs (6 * k + 1)), .int (xs (6 * k + 2))]) (rest := []) h1 (sX_least G hc (xs (6 * k + 1)) (xs (6 * k + 2))) ck_X8_least lk_L_154 ⟨rfl, rfl, Nat.le_of_ble_eq_true rfl, Nat.le_of_ble_eq_true rfl⟩ rfl rfl rfl rfl rfl (by omega) (by omega) dL_law_1283 ?_
  show LSim G b L xs ao 1286 _ [.int r] hc' hm ov cells slots
  refine L_aload_n dL_law_1286 rfl 2 rfl ?_
  refine L_aload_n dL_law_1287 rfl 0 rfl ?_
  refine L_iload dL_law_1288 4 rfl ?_
  refine L_iconst (v := 1) dL_law_1290 rfl ?_
  refine L_iadd dL_law_1291 ?_
  refine L_sld (j := 6 * k + 1) (nI_add (6 * k) 1) (by omega) hL dL_law_1292 ?_
  refine L_aload_n dL_law_1293 rfl 0 rfl ?_
  refine L_iload dL_law_1294 4 rfl ?_
  refine L_iconst (v := 2) dL_law_1296 rfl ?_
  refine L_iadd dL_law_1297 ?_
  refine L_sld (j := 6 * k + 2) (nI_add (6 * k) 2) (by omega) hL dL_law_1298 ?_
  refine L_call1 (As := [.int (xs (6 * k + 1)), .int (xs (6 * k + 2))]) (rest := [.int r]) h2 (sM_least G hm (xs (6 * k + 1)) (xs (6 * k + 2))) ck_X9_least lk_L_157 ⟨rfl, rfl, Nat.le_of_ble_eq_true rfl, Nat.le_of_ble_eq_true rfl⟩ rfl rfl rfl rfl rfl (by omega) (by omega) dL_law_1299 ?_
  show LSim G b L xs ao 1302 _ [.int r, .int r] hc' hm' ov cells slots
  refine L_icmp_eq_t (t := 1737) dL_law_1302 rfl rfl ?_
  exact hnext hc' hm' ov cells slots hR' (by omega) (by omega)
set_option maxRecDepth 20000 in
set_option maxHeartbeats 2000000 in
theorem cs_freed (G : JG) (b L : Nat) (xs : Nat → Int32) (ao k : Nat) (hL : L ≤ 3072) (hk : 6 * k + 6 ≤ L) (Rel : AH → AH → Prop) (hS : so_freed Rel) (hnext : ∀ (hc hm : AH) (ov : Nat → Int64) (cells slots : Nat), Rel hc hm → cells ≤ 105 + (k + 1) → slots ≤ 42664 + 6 * (k + 1) → LSim G b L xs ao 1737 [(0, .ref b), (1, .ref (G.ad 0 0)), (2, .ref (G.ad 32 0)), (3, .ref ao), (4, .int (nI (6 * k)))] [] hc hm ov cells slots) (hc hm : AH) (ov : Nat → Int64) (cells slots : Nat) (hR : Rel hc hm) (hcs : cells ≤ 105 + k) (hss : slots ≤ 42664 + 6 * k) : LSim G b L xs ao 1307 [(0, .ref b), (1, .ref (G.ad 0 0)), (2, .ref (G.ad 32 0)), (3, .ref ao), (4, .int (nI (6 * k)))] [] hc hm ov cells slots := by
  obtain ⟨r, hc', hm', h1, h2, hR'⟩ := hS hc hm hR (xs (6 * k + 1)) (xs (6 * k + 2))
  refine L_aload_n dL_law_1307 rfl 1 rfl ?_
  refine L_aload_n dL_law_1308 rfl 0 rfl ?_
  refine L_iload dL_law_1309 4 rfl ?_
  refine L_iconst (v := 1) dL_law_1311 rfl ?_
  refine L_iadd dL_law_1312 ?_
  refine L_sld (j := 6 * k + 1) (nI_add (6 * k) 1) (by omega) hL dL_law_1313 ?_
  refine L_aload_n dL_law_1314 rfl 0 rfl ?_
  refine L_iload dL_law_1315 4 rfl ?_
  refine L_iconst (v := 2) dL_law_1317 rfl ?_
  refine L_iadd dL_law_1318 ?_
  refine L_sld (j := 6 * k + 2) (nI_add (6 * k) 2) (by omega) hL dL_law_1319 ?_
  refine L_call0 (As := [.int (xs (6 * k + 1)), .int (xs (6 * k + 2))]) (rest := []) h1 (sX_freed G hc (xs (6 * k + 1)) (xs (6 * k + 2))) ck_X8_freed lk_L_158 ⟨rfl, rfl, Nat.le_of_ble_eq_true rfl, Nat.le_of_ble_eq_true rfl⟩ rfl rfl rfl rfl rfl (by omega) (by omega) dL_law_1320 ?_
  show LSim G b L xs ao 1323 _ [.int r] hc' hm ov cells slots
  refine L_aload_n dL_law_1323 rfl 2 rfl ?_
  refine L_aload_n dL_law_1324 rfl 0 rfl ?_
  refine L_iload dL_law_1325 4 rfl ?_
  refine L_iconst (v := 1) dL_law_1327 rfl ?_
  refine L_iadd dL_law_1328 ?_
  refine L_sld (j := 6 * k + 1) (nI_add (6 * k) 1) (by omega) hL dL_law_1329 ?_
  refine L_aload_n dL_law_1330 rfl 0 rfl ?_
  refine L_iload dL_law_1331 4 rfl ?_
  refine L_iconst (v := 2) dL_law_1333 rfl ?_
  refine L_iadd dL_law_1334 ?_
  refine L_sld (j := 6 * k + 2) (nI_add (6 * k) 2) (by omega) hL dL_law_1335 ?_
  refine L_call1 (As := [.int (xs (6 * k + 1)), .int (xs (6 * k + 2))]) (rest := [.int r]) h2 (sM_freed G hm (xs (6 * k + 1)) (xs (6 * k + 2))) ck_X9_freed lk_L_161 ⟨rfl, rfl, Nat.le_of_ble_eq_true rfl, Nat.le_of_ble_eq_true rfl⟩ rfl rfl rfl rfl rfl (by omega) (by omega) dL_law_1336 ?_
  show LSim G b L xs ao 1339 _ [.int r, .int r] hc' hm' ov cells slots
  refine L_icmp_eq_t (t := 1737) dL_law_1339 rfl rfl ?_
  exact hnext hc' hm' ov cells slots hR' (by omega) (by omega)
set_option maxRecDepth 20000 in
set_option maxHeartbeats 2000000 in
theorem cs_begin (G : JG) (b L : Nat) (xs : Nat → Int32) (ao k : Nat) (hL : L ≤ 3072) (hk : 6 * k + 6 ≤ L) (Rel : AH → AH → Prop) (hS : so_begin Rel) (hnext : ∀ (hc hm : AH) (ov : Nat → Int64) (cells slots : Nat), Rel hc hm → cells ≤ 105 + (k + 1) → slots ≤ 42664 + 6 * (k + 1) → LSim G b L xs ao 1737 [(0, .ref b), (1, .ref (G.ad 0 0)), (2, .ref (G.ad 32 0)), (3, .ref ao), (4, .int (nI (6 * k)))] [] hc hm ov cells slots) (hc hm : AH) (ov : Nat → Int64) (cells slots : Nat) (hR : Rel hc hm) (hcs : cells ≤ 105 + k) (hss : slots ≤ 42664 + 6 * k) : LSim G b L xs ao 1344 [(0, .ref b), (1, .ref (G.ad 0 0)), (2, .ref (G.ad 32 0)), (3, .ref ao), (4, .int (nI (6 * k)))] [] hc hm ov cells slots := by
  obtain ⟨r, hc', hm', h1, h2, hR'⟩ := hS hc hm hR (xs (6 * k + 1)) (xs (6 * k + 2))
  refine L_aload_n dL_law_1344 rfl 1 rfl ?_
  refine L_aload_n dL_law_1345 rfl 0 rfl ?_
  refine L_iload dL_law_1346 4 rfl ?_
  refine L_iconst (v := 1) dL_law_1348 rfl ?_
  refine L_iadd dL_law_1349 ?_
  refine L_sld (j := 6 * k + 1) (nI_add (6 * k) 1) (by omega) hL dL_law_1350 ?_
  refine L_aload_n dL_law_1351 rfl 0 rfl ?_
  refine L_iload dL_law_1352 4 rfl ?_
  refine L_iconst (v := 2) dL_law_1354 rfl ?_
  refine L_iadd dL_law_1355 ?_
  refine L_sld (j := 6 * k + 2) (nI_add (6 * k) 2) (by omega) hL dL_law_1356 ?_
  refine L_call0 (As := [.int (xs (6 * k + 1)), .int (xs (6 * k + 2))]) (rest := []) h1 (sX_begin G hc (xs (6 * k + 1)) (xs (6 * k + 2))) ck_X8_begin lk_L_162 ⟨rfl, rfl, Nat.le_of_ble_eq_true rfl, Nat.le_of_ble_eq_true rfl⟩ rfl rfl rfl rfl rfl (by omega) (by omega) dL_law_1357 ?_
  show LSim G b L xs ao 1360 _ [.int r] hc' hm ov cells slots
  refine L_aload_n dL_law_1360 rfl 2 rfl ?_
  refine L_aload_n dL_law_1361 rfl 0 rfl ?_
  refine L_iload dL_law_1362 4 rfl ?_
  refine L_iconst (v := 1) dL_law_1364 rfl ?_
  refine L_iadd dL_law_1365 ?_
  refine L_sld (j := 6 * k + 1) (nI_add (6 * k) 1) (by omega) hL dL_law_1366 ?_
  refine L_aload_n dL_law_1367 rfl 0 rfl ?_
  refine L_iload dL_law_1368 4 rfl ?_
  refine L_iconst (v := 2) dL_law_1370 rfl ?_
  refine L_iadd dL_law_1371 ?_
  refine L_sld (j := 6 * k + 2) (nI_add (6 * k) 2) (by omega) hL dL_law_1372 ?_
  refine L_call1 (As := [.int (xs (6 * k + 1)), .int (xs (6 * k + 2))]) (rest := [.int r]) h2 (sM_begin G hm (xs (6 * k + 1)) (xs (6 * k + 2))) ck_X9_begin lk_L_166 ⟨rfl, rfl, Nat.le_of_ble_eq_true rfl, Nat.le_of_ble_eq_true rfl⟩ rfl rfl rfl rfl rfl (by omega) (by omega) dL_law_1373 ?_
  show LSim G b L xs ao 1376 _ [.int r, .int r] hc' hm' ov cells slots
  refine L_icmp_eq_t (t := 1737) dL_law_1376 rfl rfl ?_
  exact hnext hc' hm' ov cells slots hR' (by omega) (by omega)
set_option maxRecDepth 20000 in
set_option maxHeartbeats 2000000 in
theorem cs_patch (G : JG) (b L : Nat) (xs : Nat → Int32) (ao k : Nat) (hL : L ≤ 3072) (hk : 6 * k + 6 ≤ L) (Rel : AH → AH → Prop) (hS : so_patch Rel) (hnext : ∀ (hc hm : AH) (ov : Nat → Int64) (cells slots : Nat), Rel hc hm → cells ≤ 105 + (k + 1) → slots ≤ 42664 + 6 * (k + 1) → LSim G b L xs ao 1737 [(0, .ref b), (1, .ref (G.ad 0 0)), (2, .ref (G.ad 32 0)), (3, .ref ao), (4, .int (nI (6 * k)))] [] hc hm ov cells slots) (hc hm : AH) (ov : Nat → Int64) (cells slots : Nat) (hR : Rel hc hm) (hcs : cells ≤ 105 + k) (hss : slots ≤ 42664 + 6 * k) : LSim G b L xs ao 1381 [(0, .ref b), (1, .ref (G.ad 0 0)), (2, .ref (G.ad 32 0)), (3, .ref ao), (4, .int (nI (6 * k)))] [] hc hm ov cells slots := by
  obtain ⟨r, hc', hm', h1, h2, hR'⟩ := hS hc hm hR (xs (6 * k + 1)) (xs (6 * k + 2)) (xs (6 * k + 3)) (xs (6 * k + 4)) (xs (6 * k + 5))
  refine L_aload_n dL_law_1381 rfl 1 rfl ?_
  refine L_aload_n dL_law_1382 rfl 0 rfl ?_
  refine L_iload dL_law_1383 4 rfl ?_
  refine L_iconst (v := 1) dL_law_1385 rfl ?_
  refine L_iadd dL_law_1386 ?_
  refine L_sld (j := 6 * k + 1) (nI_add (6 * k) 1) (by omega) hL dL_law_1387 ?_
  refine L_aload_n dL_law_1388 rfl 0 rfl ?_
  refine L_iload dL_law_1389 4 rfl ?_
  refine L_iconst (v := 2) dL_law_1391 rfl ?_
  refine L_iadd dL_law_1392 ?_
  refine L_sld (j := 6 * k + 2) (nI_add (6 * k) 2) (by omega) hL dL_law_1393 ?_
  refine L_aload_n dL_law_1394 rfl 0 rfl ?_
  refine L_iload dL_law_1395 4 rfl ?_
  refine L_iconst (v := 3) dL_law_1397 rfl ?_
  refine L_iadd dL_law_1398 ?_
  refine L_sld (j := 6 * k + 3) (nI_add (6 * k) 3) (by omega) hL dL_law_1399 ?_
  refine L_aload_n dL_law_1400 rfl 0 rfl ?_
  refine L_iload dL_law_1401 4 rfl ?_
  refine L_iconst (v := 4) dL_law_1403 rfl ?_
  refine L_iadd dL_law_1404 ?_
  refine L_sld (j := 6 * k + 4) (nI_add (6 * k) 4) (by omega) hL dL_law_1405 ?_
  refine L_aload_n dL_law_1406 rfl 0 rfl ?_
  refine L_iload dL_law_1407 4 rfl ?_
  refine L_iconst (v := 5) dL_law_1409 rfl ?_
  refine L_iadd dL_law_1410 ?_
  refine L_sld (j := 6 * k + 5) (nI_add (6 * k) 5) (by omega) hL dL_law_1411 ?_
  refine L_call0 (As := [.int (xs (6 * k + 1)), .int (xs (6 * k + 2)), .int (xs (6 * k + 3)), .int (xs (6 * k + 4)), .int (xs (6 * k + 5))]) (rest := []) h1 (sX_patch G hc (xs (6 * k + 1)) (xs (6 * k + 2)) (xs (6 * k + 3)) (xs (6 * k + 4)) (xs (6 * k + 5))) ck_X8_patch lk_L_167 ⟨rfl, rfl, Nat.le_of_ble_eq_true rfl, Nat.le_of_ble_eq_true rfl⟩ rfl rfl rfl rfl rfl (by omega) (by omega) dL_law_1412 ?_
  show LSim G b L xs ao 1415 _ [.int r] hc' hm ov cells slots
  refine L_aload_n dL_law_1415 rfl 2 rfl ?_
  refine L_aload_n dL_law_1416 rfl 0 rfl ?_
  refine L_iload dL_law_1417 4 rfl ?_
  refine L_iconst (v := 1) dL_law_1419 rfl ?_
  refine L_iadd dL_law_1420 ?_
  refine L_sld (j := 6 * k + 1) (nI_add (6 * k) 1) (by omega) hL dL_law_1421 ?_
  refine L_aload_n dL_law_1422 rfl 0 rfl ?_
  refine L_iload dL_law_1423 4 rfl ?_
  refine L_iconst (v := 2) dL_law_1425 rfl ?_
  refine L_iadd dL_law_1426 ?_
  refine L_sld (j := 6 * k + 2) (nI_add (6 * k) 2) (by omega) hL dL_law_1427 ?_
  refine L_aload_n dL_law_1428 rfl 0 rfl ?_
  refine L_iload dL_law_1429 4 rfl ?_
  refine L_iconst (v := 3) dL_law_1431 rfl ?_
  refine L_iadd dL_law_1432 ?_
  refine L_sld (j := 6 * k + 3) (nI_add (6 * k) 3) (by omega) hL dL_law_1433 ?_
  refine L_aload_n dL_law_1434 rfl 0 rfl ?_
  refine L_iload dL_law_1435 4 rfl ?_
  refine L_iconst (v := 4) dL_law_1437 rfl ?_
  refine L_iadd dL_law_1438 ?_
  refine L_sld (j := 6 * k + 4) (nI_add (6 * k) 4) (by omega) hL dL_law_1439 ?_
  refine L_aload_n dL_law_1440 rfl 0 rfl ?_
  refine L_iload dL_law_1441 4 rfl ?_
  refine L_iconst (v := 5) dL_law_1443 rfl ?_
  refine L_iadd dL_law_1444 ?_
  refine L_sld (j := 6 * k + 5) (nI_add (6 * k) 5) (by omega) hL dL_law_1445 ?_
  refine L_call1 (As := [.int (xs (6 * k + 1)), .int (xs (6 * k + 2)), .int (xs (6 * k + 3)), .int (xs (6 * k + 4)), .int (xs (6 * k + 5))]) (rest := [.int r]) h2 (sM_patch G hm (xs (6 * k + 1)) (xs (6 * k + 2)) (xs (6 * k + 3)) (xs (6 * k + 4)) (xs (6 * k + 5))) ck_X9_patch lk_L_171 ⟨rfl, rfl, Nat.le_of_ble_eq_true rfl, Nat.le_of_ble_eq_true rfl⟩ rfl rfl rfl rfl rfl (by omega) (by omega) dL_law_1446 ?_
  show LSim G b L xs ao 1449 _ [.int r, .int r] hc' hm' ov cells slots
  refine L_icmp_eq_t (t := 1737) dL_law_1449 rfl rfl ?_
  exact hnext hc' hm' ov cells slots hR' (by omega) (by omega)
set_option maxRecDepth 20000 in
set_option maxHeartbeats 2000000 in
theorem cs_dry (G : JG) (b L : Nat) (xs : Nat → Int32) (ao k : Nat) (hL : L ≤ 3072) (hk : 6 * k + 6 ≤ L) (Rel : AH → AH → Prop) (hS : so_dry Rel) (hnext : ∀ (hc hm : AH) (ov : Nat → Int64) (cells slots : Nat), Rel hc hm → cells ≤ 105 + (k + 1) → slots ≤ 42664 + 6 * (k + 1) → LSim G b L xs ao 1737 [(0, .ref b), (1, .ref (G.ad 0 0)), (2, .ref (G.ad 32 0)), (3, .ref ao), (4, .int (nI (6 * k)))] [] hc hm ov cells slots) (hc hm : AH) (ov : Nat → Int64) (cells slots : Nat) (hR : Rel hc hm) (hcs : cells ≤ 105 + k) (hss : slots ≤ 42664 + 6 * k) : LSim G b L xs ao 1454 [(0, .ref b), (1, .ref (G.ad 0 0)), (2, .ref (G.ad 32 0)), (3, .ref ao), (4, .int (nI (6 * k)))] [] hc hm ov cells slots := by
  obtain ⟨r, hc', hm', h1, h2, hR'⟩ := hS hc hm hR 
  refine L_aload_n dL_law_1454 rfl 1 rfl ?_
  refine L_call0 (As := []) (rest := []) h1 (sX_dry G hc) ck_X8_dry lk_L_172 ⟨rfl, rfl, Nat.le_of_ble_eq_true rfl, Nat.le_of_ble_eq_true rfl⟩ rfl rfl rfl rfl rfl (by omega) (by omega) dL_law_1455 ?_
  show LSim G b L xs ao 1458 _ [.int r] hc' hm ov cells slots
  refine L_aload_n dL_law_1458 rfl 2 rfl ?_
  refine L_call1 (As := []) (rest := [.int r]) h2 (sM_dry G hm) ck_X9_dry lk_L_175 ⟨rfl, rfl, Nat.le_of_ble_eq_true rfl, Nat.le_of_ble_eq_true rfl⟩ rfl rfl rfl rfl rfl (by omega) (by omega) dL_law_1459 ?_
  show LSim G b L xs ao 1462 _ [.int r, .int r] hc' hm' ov cells slots
  refine L_icmp_eq_t (t := 1737) dL_law_1462 rfl rfl ?_
  exact hnext hc' hm' ov cells slots hR' (by omega) (by omega)
set_option maxRecDepth 20000 in
set_option maxHeartbeats 2000000 in
theorem cs_wipe (G : JG) (b L : Nat) (xs : Nat → Int32) (ao k : Nat) (hL : L ≤ 3072) (hk : 6 * k + 6 ≤ L) (Rel : AH → AH → Prop) (hS : so_wipe Rel) (hnext : ∀ (hc hm : AH) (ov : Nat → Int64) (cells slots : Nat), Rel hc hm → cells ≤ 105 + (k + 1) → slots ≤ 42664 + 6 * (k + 1) → LSim G b L xs ao 1737 [(0, .ref b), (1, .ref (G.ad 0 0)), (2, .ref (G.ad 32 0)), (3, .ref ao), (4, .int (nI (6 * k)))] [] hc hm ov cells slots) (hc hm : AH) (ov : Nat → Int64) (cells slots : Nat) (hR : Rel hc hm) (hcs : cells ≤ 105 + k) (hss : slots ≤ 42664 + 6 * k) : LSim G b L xs ao 1467 [(0, .ref b), (1, .ref (G.ad 0 0)), (2, .ref (G.ad 32 0)), (3, .ref ao), (4, .int (nI (6 * k)))] [] hc hm ov cells slots := by
  obtain ⟨r, hc', hm', h1, h2, hR'⟩ := hS hc hm hR 
  refine L_aload_n dL_law_1467 rfl 1 rfl ?_
  refine L_call0 (As := []) (rest := []) h1 (sX_wipe G hc) ck_X8_wipe lk_L_176 ⟨rfl, rfl, Nat.le_of_ble_eq_true rfl, Nat.le_of_ble_eq_true rfl⟩ rfl rfl rfl rfl rfl (by omega) (by omega) dL_law_1468 ?_
  show LSim G b L xs ao 1471 _ [.int r] hc' hm ov cells slots
  refine L_aload_n dL_law_1471 rfl 2 rfl ?_
  refine L_call1 (As := []) (rest := [.int r]) h2 (sM_wipe G hm) ck_X9_wipe lk_L_180 ⟨rfl, rfl, Nat.le_of_ble_eq_true rfl, Nat.le_of_ble_eq_true rfl⟩ rfl rfl rfl rfl rfl (by omega) (by omega) dL_law_1472 ?_
  show LSim G b L xs ao 1475 _ [.int r, .int r] hc' hm' ov cells slots
  refine L_icmp_eq_t (t := 1737) dL_law_1475 rfl rfl ?_
  exact hnext hc' hm' ov cells slots hR' (by omega) (by omega)
set_option maxRecDepth 20000 in
set_option maxHeartbeats 2000000 in
theorem cs_wet (G : JG) (b L : Nat) (xs : Nat → Int32) (ao k : Nat) (hL : L ≤ 3072) (hk : 6 * k + 6 ≤ L) (Rel : AH → AH → Prop) (hS : so_wet Rel) (hnext : ∀ (hc hm : AH) (ov : Nat → Int64) (cells slots : Nat), Rel hc hm → cells ≤ 105 + (k + 1) → slots ≤ 42664 + 6 * (k + 1) → LSim G b L xs ao 1737 [(0, .ref b), (1, .ref (G.ad 0 0)), (2, .ref (G.ad 32 0)), (3, .ref ao), (4, .int (nI (6 * k)))] [] hc hm ov cells slots) (hc hm : AH) (ov : Nat → Int64) (cells slots : Nat) (hR : Rel hc hm) (hcs : cells ≤ 105 + k) (hss : slots ≤ 42664 + 6 * k) : LSim G b L xs ao 1480 [(0, .ref b), (1, .ref (G.ad 0 0)), (2, .ref (G.ad 32 0)), (3, .ref ao), (4, .int (nI (6 * k)))] [] hc hm ov cells slots := by
  obtain ⟨r, hc', hm', h1, h2, hR'⟩ := hS hc hm hR (xs (6 * k + 1)) (xs (6 * k + 2))
  refine L_aload_n dL_law_1480 rfl 1 rfl ?_
  refine L_aload_n dL_law_1481 rfl 0 rfl ?_
  refine L_iload dL_law_1482 4 rfl ?_
  refine L_iconst (v := 1) dL_law_1484 rfl ?_
  refine L_iadd dL_law_1485 ?_
  refine L_sld (j := 6 * k + 1) (nI_add (6 * k) 1) (by omega) hL dL_law_1486 ?_
  refine L_aload_n dL_law_1487 rfl 0 rfl ?_
  refine L_iload dL_law_1488 4 rfl ?_
  refine L_iconst (v := 2) dL_law_1490 rfl ?_
  refine L_iadd dL_law_1491 ?_
  refine L_sld (j := 6 * k + 2) (nI_add (6 * k) 2) (by omega) hL dL_law_1492 ?_
  refine L_call0 (As := [.int (xs (6 * k + 1)), .int (xs (6 * k + 2))]) (rest := []) h1 (sX_wet G hc (xs (6 * k + 1)) (xs (6 * k + 2))) ck_X8_wet lk_L_181 ⟨rfl, rfl, Nat.le_of_ble_eq_true rfl, Nat.le_of_ble_eq_true rfl⟩ rfl rfl rfl rfl rfl (by omega) (by omega) dL_law_1493 ?_
  show LSim G b L xs ao 1496 _ [.int r] hc' hm ov cells slots
  refine L_aload_n dL_law_1496 rfl 2 rfl ?_
  refine L_aload_n dL_law_1497 rfl 0 rfl ?_
  refine L_iload dL_law_1498 4 rfl ?_
  refine L_iconst (v := 1) dL_law_1500 rfl ?_
  refine L_iadd dL_law_1501 ?_
  refine L_sld (j := 6 * k + 1) (nI_add (6 * k) 1) (by omega) hL dL_law_1502 ?_
  refine L_aload_n dL_law_1503 rfl 0 rfl ?_
  refine L_iload dL_law_1504 4 rfl ?_
  refine L_iconst (v := 2) dL_law_1506 rfl ?_
  refine L_iadd dL_law_1507 ?_
  refine L_sld (j := 6 * k + 2) (nI_add (6 * k) 2) (by omega) hL dL_law_1508 ?_
  refine L_call1 (As := [.int (xs (6 * k + 1)), .int (xs (6 * k + 2))]) (rest := [.int r]) h2 (sM_wet G hm (xs (6 * k + 1)) (xs (6 * k + 2))) ck_X9_wet lk_L_184 ⟨rfl, rfl, Nat.le_of_ble_eq_true rfl, Nat.le_of_ble_eq_true rfl⟩ rfl rfl rfl rfl rfl (by omega) (by omega) dL_law_1509 ?_
  show LSim G b L xs ao 1512 _ [.int r, .int r] hc' hm' ov cells slots
  refine L_icmp_eq_t (t := 1737) dL_law_1512 rfl rfl ?_
  exact hnext hc' hm' ov cells slots hR' (by omega) (by omega)
set_option maxRecDepth 20000 in
set_option maxHeartbeats 2000000 in
theorem cs_wetJudged (G : JG) (b L : Nat) (xs : Nat → Int32) (ao k : Nat) (hL : L ≤ 3072) (hk : 6 * k + 6 ≤ L) (Rel : AH → AH → Prop) (hS : so_wetJudged Rel) (hnext : ∀ (hc hm : AH) (ov : Nat → Int64) (cells slots : Nat), Rel hc hm → cells ≤ 105 + (k + 1) → slots ≤ 42664 + 6 * (k + 1) → LSim G b L xs ao 1737 [(0, .ref b), (1, .ref (G.ad 0 0)), (2, .ref (G.ad 32 0)), (3, .ref ao), (4, .int (nI (6 * k)))] [] hc hm ov cells slots) (hc hm : AH) (ov : Nat → Int64) (cells slots : Nat) (hR : Rel hc hm) (hcs : cells ≤ 105 + k) (hss : slots ≤ 42664 + 6 * k) : LSim G b L xs ao 1517 [(0, .ref b), (1, .ref (G.ad 0 0)), (2, .ref (G.ad 32 0)), (3, .ref ao), (4, .int (nI (6 * k)))] [] hc hm ov cells slots := by
  obtain ⟨r, hc', hm', h1, h2, hR'⟩ := hS hc hm hR 
  refine L_aload_n dL_law_1517 rfl 1 rfl ?_
  refine L_call0 (As := []) (rest := []) h1 (sX_wetJudged G hc) ck_X8_wetJudged lk_L_185 ⟨rfl, rfl, Nat.le_of_ble_eq_true rfl, Nat.le_of_ble_eq_true rfl⟩ rfl rfl rfl rfl rfl (by omega) (by omega) dL_law_1518 ?_
  show LSim G b L xs ao 1521 _ [.int r] hc' hm ov cells slots
  refine L_aload_n dL_law_1521 rfl 2 rfl ?_
  refine L_call1 (As := []) (rest := [.int r]) h2 (sM_wetJudged G hm) ck_X9_wetJudged lk_L_188 ⟨rfl, rfl, Nat.le_of_ble_eq_true rfl, Nat.le_of_ble_eq_true rfl⟩ rfl rfl rfl rfl rfl (by omega) (by omega) dL_law_1522 ?_
  show LSim G b L xs ao 1525 _ [.int r, .int r] hc' hm' ov cells slots
  refine L_icmp_eq_t (t := 1737) dL_law_1525 rfl rfl ?_
  exact hnext hc' hm' ov cells slots hR' (by omega) (by omega)
set_option maxRecDepth 20000 in
set_option maxHeartbeats 2000000 in
theorem cs_scrape (G : JG) (b L : Nat) (xs : Nat → Int32) (ao k : Nat) (hL : L ≤ 3072) (hk : 6 * k + 6 ≤ L) (Rel : AH → AH → Prop) (hS : so_scrape Rel) (hnext : ∀ (hc hm : AH) (ov : Nat → Int64) (cells slots : Nat), Rel hc hm → cells ≤ 105 + (k + 1) → slots ≤ 42664 + 6 * (k + 1) → LSim G b L xs ao 1737 [(0, .ref b), (1, .ref (G.ad 0 0)), (2, .ref (G.ad 32 0)), (3, .ref ao), (4, .int (nI (6 * k)))] [] hc hm ov cells slots) (hc hm : AH) (ov : Nat → Int64) (cells slots : Nat) (hR : Rel hc hm) (hcs : cells ≤ 105 + k) (hss : slots ≤ 42664 + 6 * k) : LSim G b L xs ao 1530 [(0, .ref b), (1, .ref (G.ad 0 0)), (2, .ref (G.ad 32 0)), (3, .ref ao), (4, .int (nI (6 * k)))] [] hc hm ov cells slots := by
  obtain ⟨r, hc', hm', h1, h2, hR'⟩ := hS hc hm hR (xs (6 * k + 1)) (xs (6 * k + 2))
  refine L_aload_n dL_law_1530 rfl 1 rfl ?_
  refine L_aload_n dL_law_1531 rfl 0 rfl ?_
  refine L_iload dL_law_1532 4 rfl ?_
  refine L_iconst (v := 1) dL_law_1534 rfl ?_
  refine L_iadd dL_law_1535 ?_
  refine L_sld (j := 6 * k + 1) (nI_add (6 * k) 1) (by omega) hL dL_law_1536 ?_
  refine L_aload_n dL_law_1537 rfl 0 rfl ?_
  refine L_iload dL_law_1538 4 rfl ?_
  refine L_iconst (v := 2) dL_law_1540 rfl ?_
  refine L_iadd dL_law_1541 ?_
  refine L_sld (j := 6 * k + 2) (nI_add (6 * k) 2) (by omega) hL dL_law_1542 ?_
  refine L_call0 (As := [.int (xs (6 * k + 1)), .int (xs (6 * k + 2))]) (rest := []) h1 (sX_scrape G hc (xs (6 * k + 1)) (xs (6 * k + 2))) ck_X8_scrape lk_L_189 ⟨rfl, rfl, Nat.le_of_ble_eq_true rfl, Nat.le_of_ble_eq_true rfl⟩ rfl rfl rfl rfl rfl (by omega) (by omega) dL_law_1543 ?_
  show LSim G b L xs ao 1546 _ [.int r] hc' hm ov cells slots
  refine L_aload_n dL_law_1546 rfl 2 rfl ?_
  refine L_aload_n dL_law_1547 rfl 0 rfl ?_
  refine L_iload dL_law_1548 4 rfl ?_
  refine L_iconst (v := 1) dL_law_1550 rfl ?_
  refine L_iadd dL_law_1551 ?_
  refine L_sld (j := 6 * k + 1) (nI_add (6 * k) 1) (by omega) hL dL_law_1552 ?_
  refine L_aload_n dL_law_1553 rfl 0 rfl ?_
  refine L_iload dL_law_1554 4 rfl ?_
  refine L_iconst (v := 2) dL_law_1556 rfl ?_
  refine L_iadd dL_law_1557 ?_
  refine L_sld (j := 6 * k + 2) (nI_add (6 * k) 2) (by omega) hL dL_law_1558 ?_
  refine L_call1 (As := [.int (xs (6 * k + 1)), .int (xs (6 * k + 2))]) (rest := [.int r]) h2 (sM_scrape G hm (xs (6 * k + 1)) (xs (6 * k + 2))) ck_X9_scrape lk_L_192 ⟨rfl, rfl, Nat.le_of_ble_eq_true rfl, Nat.le_of_ble_eq_true rfl⟩ rfl rfl rfl rfl rfl (by omega) (by omega) dL_law_1559 ?_
  show LSim G b L xs ao 1562 _ [.int r, .int r] hc' hm' ov cells slots
  refine L_icmp_eq_t (t := 1737) dL_law_1562 rfl rfl ?_
  exact hnext hc' hm' ov cells slots hR' (by omega) (by omega)
set_option maxRecDepth 20000 in
set_option maxHeartbeats 2000000 in
theorem cs_thief (G : JG) (b L : Nat) (xs : Nat → Int32) (ao k : Nat) (hL : L ≤ 3072) (hk : 6 * k + 6 ≤ L) (Rel : AH → AH → Prop) (hS : so_thief Rel) (hnext : ∀ (hc hm : AH) (ov : Nat → Int64) (cells slots : Nat), Rel hc hm → cells ≤ 105 + (k + 1) → slots ≤ 42664 + 6 * (k + 1) → LSim G b L xs ao 1737 [(0, .ref b), (1, .ref (G.ad 0 0)), (2, .ref (G.ad 32 0)), (3, .ref ao), (4, .int (nI (6 * k)))] [] hc hm ov cells slots) (hc hm : AH) (ov : Nat → Int64) (cells slots : Nat) (hR : Rel hc hm) (hcs : cells ≤ 105 + k) (hss : slots ≤ 42664 + 6 * k) : LSim G b L xs ao 1567 [(0, .ref b), (1, .ref (G.ad 0 0)), (2, .ref (G.ad 32 0)), (3, .ref ao), (4, .int (nI (6 * k)))] [] hc hm ov cells slots := by
  obtain ⟨r, hc', hm', h1, h2, hR'⟩ := hS hc hm hR (xs (6 * k + 1))
  refine L_aload_n dL_law_1567 rfl 1 rfl ?_
  refine L_aload_n dL_law_1568 rfl 0 rfl ?_
  refine L_iload dL_law_1569 4 rfl ?_
  refine L_iconst (v := 1) dL_law_1571 rfl ?_
  refine L_iadd dL_law_1572 ?_
  refine L_sld (j := 6 * k + 1) (nI_add (6 * k) 1) (by omega) hL dL_law_1573 ?_
  refine L_call0 (As := [.int (xs (6 * k + 1))]) (rest := []) h1 (sX_thief G hc (xs (6 * k + 1))) ck_X8_thief lk_L_193 ⟨rfl, rfl, Nat.le_of_ble_eq_true rfl, Nat.le_of_ble_eq_true rfl⟩ rfl rfl rfl rfl rfl (by omega) (by omega) dL_law_1574 ?_
  show LSim G b L xs ao 1577 _ [.int r] hc' hm ov cells slots
  refine L_aload_n dL_law_1577 rfl 2 rfl ?_
  refine L_aload_n dL_law_1578 rfl 0 rfl ?_
  refine L_iload dL_law_1579 4 rfl ?_
  refine L_iconst (v := 1) dL_law_1581 rfl ?_
  refine L_iadd dL_law_1582 ?_
  refine L_sld (j := 6 * k + 1) (nI_add (6 * k) 1) (by omega) hL dL_law_1583 ?_
  refine L_call1 (As := [.int (xs (6 * k + 1))]) (rest := [.int r]) h2 (sM_thief G hm (xs (6 * k + 1))) ck_X9_thief lk_L_196 ⟨rfl, rfl, Nat.le_of_ble_eq_true rfl, Nat.le_of_ble_eq_true rfl⟩ rfl rfl rfl rfl rfl (by omega) (by omega) dL_law_1584 ?_
  show LSim G b L xs ao 1587 _ [.int r, .int r] hc' hm' ov cells slots
  refine L_icmp_eq_t (t := 1737) dL_law_1587 rfl rfl ?_
  exact hnext hc' hm' ov cells slots hR' (by omega) (by omega)
set_option maxRecDepth 20000 in
set_option maxHeartbeats 2000000 in
theorem cs_undo (G : JG) (b L : Nat) (xs : Nat → Int32) (ao k : Nat) (hL : L ≤ 3072) (hk : 6 * k + 6 ≤ L) (Rel : AH → AH → Prop) (hS : so_undo Rel) (hnext : ∀ (hc hm : AH) (ov : Nat → Int64) (cells slots : Nat), Rel hc hm → cells ≤ 105 + (k + 1) → slots ≤ 42664 + 6 * (k + 1) → LSim G b L xs ao 1737 [(0, .ref b), (1, .ref (G.ad 0 0)), (2, .ref (G.ad 32 0)), (3, .ref ao), (4, .int (nI (6 * k)))] [] hc hm ov cells slots) (hc hm : AH) (ov : Nat → Int64) (cells slots : Nat) (hR : Rel hc hm) (hcs : cells ≤ 105 + k) (hss : slots ≤ 42664 + 6 * k) : LSim G b L xs ao 1592 [(0, .ref b), (1, .ref (G.ad 0 0)), (2, .ref (G.ad 32 0)), (3, .ref ao), (4, .int (nI (6 * k)))] [] hc hm ov cells slots := by
  obtain ⟨r, hc', hm', h1, h2, hR'⟩ := hS hc hm hR 
  refine L_aload_n dL_law_1592 rfl 1 rfl ?_
  refine L_call0 (As := []) (rest := []) h1 (sX_undo G hc) ck_X8_undo lk_L_197 ⟨rfl, rfl, Nat.le_of_ble_eq_true rfl, Nat.le_of_ble_eq_true rfl⟩ rfl rfl rfl rfl rfl (by omega) (by omega) dL_law_1593 ?_
  show LSim G b L xs ao 1596 _ [.int r] hc' hm ov cells slots
  refine L_aload_n dL_law_1596 rfl 2 rfl ?_
  refine L_call1 (As := []) (rest := [.int r]) h2 (sM_undo G hm) ck_X9_undo lk_L_200 ⟨rfl, rfl, Nat.le_of_ble_eq_true rfl, Nat.le_of_ble_eq_true rfl⟩ rfl rfl rfl rfl rfl (by omega) (by omega) dL_law_1597 ?_
  show LSim G b L xs ao 1600 _ [.int r, .int r] hc' hm' ov cells slots
  refine L_icmp_eq_t (t := 1737) dL_law_1600 rfl rfl ?_
  exact hnext hc' hm' ov cells slots hR' (by omega) (by omega)
set_option maxRecDepth 20000 in
set_option maxHeartbeats 2000000 in
theorem cs_image (G : JG) (b L : Nat) (xs : Nat → Int32) (ao k : Nat) (hL : L ≤ 3072) (hk : 6 * k + 6 ≤ L) (Rel : AH → AH → Prop) (hS : so_image Rel) (hnext : ∀ (hc hm : AH) (ov : Nat → Int64) (cells slots : Nat), Rel hc hm → cells ≤ 105 + (k + 1) → slots ≤ 42664 + 6 * (k + 1) → LSim G b L xs ao 1737 [(0, .ref b), (1, .ref (G.ad 0 0)), (2, .ref (G.ad 32 0)), (3, .ref ao), (4, .int (nI (6 * k)))] [] hc hm ov cells slots) (hc hm : AH) (ov : Nat → Int64) (cells slots : Nat) (hR : Rel hc hm) (hcs : cells ≤ 105 + k) (hss : slots ≤ 42664 + 6 * k) : LSim G b L xs ao 1605 [(0, .ref b), (1, .ref (G.ad 0 0)), (2, .ref (G.ad 32 0)), (3, .ref ao), (4, .int (nI (6 * k)))] [] hc hm ov cells slots := by
  obtain ⟨r, hc', hm', h1, h2, hR'⟩ := hS hc hm hR 
  refine L_aload_n dL_law_1605 rfl 1 rfl ?_
  refine L_call0 (As := []) (rest := []) h1 (sX_image G hc) ck_X8_image lk_L_201 ⟨rfl, rfl, Nat.le_of_ble_eq_true rfl, Nat.le_of_ble_eq_true rfl⟩ rfl rfl rfl rfl rfl (by omega) (by omega) dL_law_1606 ?_
  show LSim G b L xs ao 1609 _ [.int r] hc' hm ov cells slots
  refine L_aload_n dL_law_1609 rfl 2 rfl ?_
  refine L_call1 (As := []) (rest := [.int r]) h2 (sM_image G hm) ck_X9_image lk_L_204 ⟨rfl, rfl, Nat.le_of_ble_eq_true rfl, Nat.le_of_ble_eq_true rfl⟩ rfl rfl rfl rfl rfl (by omega) (by omega) dL_law_1610 ?_
  show LSim G b L xs ao 1613 _ [.int r, .int r] hc' hm' ov cells slots
  refine L_icmp_eq_t (t := 1737) dL_law_1613 rfl rfl ?_
  exact hnext hc' hm' ov cells slots hR' (by omega) (by omega)
set_option maxRecDepth 20000 in
set_option maxHeartbeats 2000000 in
theorem cs_back (G : JG) (b L : Nat) (xs : Nat → Int32) (ao k : Nat) (hL : L ≤ 3072) (hk : 6 * k + 6 ≤ L) (Rel : AH → AH → Prop) (hS : so_back Rel) (hnext : ∀ (hc hm : AH) (ov : Nat → Int64) (cells slots : Nat), Rel hc hm → cells ≤ 105 + (k + 1) → slots ≤ 42664 + 6 * (k + 1) → LSim G b L xs ao 1737 [(0, .ref b), (1, .ref (G.ad 0 0)), (2, .ref (G.ad 32 0)), (3, .ref ao), (4, .int (nI (6 * k)))] [] hc hm ov cells slots) (hc hm : AH) (ov : Nat → Int64) (cells slots : Nat) (hR : Rel hc hm) (hcs : cells ≤ 105 + k) (hss : slots ≤ 42664 + 6 * k) : LSim G b L xs ao 1618 [(0, .ref b), (1, .ref (G.ad 0 0)), (2, .ref (G.ad 32 0)), (3, .ref ao), (4, .int (nI (6 * k)))] [] hc hm ov cells slots := by
  obtain ⟨r, hc', hm', h1, h2, hR'⟩ := hS hc hm hR (xs (6 * k + 1))
  refine L_aload_n dL_law_1618 rfl 1 rfl ?_
  refine L_aload_n dL_law_1619 rfl 0 rfl ?_
  refine L_iload dL_law_1620 4 rfl ?_
  refine L_iconst (v := 1) dL_law_1622 rfl ?_
  refine L_iadd dL_law_1623 ?_
  refine L_sld (j := 6 * k + 1) (nI_add (6 * k) 1) (by omega) hL dL_law_1624 ?_
  refine L_call0 (As := [.int (xs (6 * k + 1))]) (rest := []) h1 (sX_back G hc (xs (6 * k + 1))) ck_X8_back lk_L_205 ⟨rfl, rfl, Nat.le_of_ble_eq_true rfl, Nat.le_of_ble_eq_true rfl⟩ rfl rfl rfl rfl rfl (by omega) (by omega) dL_law_1625 ?_
  show LSim G b L xs ao 1628 _ [.int r] hc' hm ov cells slots
  refine L_aload_n dL_law_1628 rfl 2 rfl ?_
  refine L_aload_n dL_law_1629 rfl 0 rfl ?_
  refine L_iload dL_law_1630 4 rfl ?_
  refine L_iconst (v := 1) dL_law_1632 rfl ?_
  refine L_iadd dL_law_1633 ?_
  refine L_sld (j := 6 * k + 1) (nI_add (6 * k) 1) (by omega) hL dL_law_1634 ?_
  refine L_call1 (As := [.int (xs (6 * k + 1))]) (rest := [.int r]) h2 (sM_back G hm (xs (6 * k + 1))) ck_X9_back lk_L_209 ⟨rfl, rfl, Nat.le_of_ble_eq_true rfl, Nat.le_of_ble_eq_true rfl⟩ rfl rfl rfl rfl rfl (by omega) (by omega) dL_law_1635 ?_
  show LSim G b L xs ao 1638 _ [.int r, .int r] hc' hm' ov cells slots
  refine L_icmp_eq_t (t := 1737) dL_law_1638 rfl rfl ?_
  exact hnext hc' hm' ov cells slots hR' (by omega) (by omega)
set_option maxRecDepth 20000 in
set_option maxHeartbeats 2000000 in
theorem cs_led (G : JG) (b L : Nat) (xs : Nat → Int32) (ao k : Nat) (hL : L ≤ 3072) (hk : 6 * k + 6 ≤ L) (Rel : AH → AH → Prop) (hS : so_led Rel) (hnext : ∀ (hc hm : AH) (ov : Nat → Int64) (cells slots : Nat), Rel hc hm → cells ≤ 105 + (k + 1) → slots ≤ 42664 + 6 * (k + 1) → LSim G b L xs ao 1737 [(0, .ref b), (1, .ref (G.ad 0 0)), (2, .ref (G.ad 32 0)), (3, .ref ao), (4, .int (nI (6 * k)))] [] hc hm ov cells slots) (hc hm : AH) (ov : Nat → Int64) (cells slots : Nat) (hR : Rel hc hm) (hcs : cells ≤ 105 + k) (hss : slots ≤ 42664 + 6 * k) : LSim G b L xs ao 1643 [(0, .ref b), (1, .ref (G.ad 0 0)), (2, .ref (G.ad 32 0)), (3, .ref ao), (4, .int (nI (6 * k)))] [] hc hm ov cells slots := by
  obtain ⟨cv, r, hm', th, h1, h2, hR', h3, h4, h5⟩ := hS hc hm hR (xs (6 * k + 1))
  refine L_aload_n dL_law_1643 rfl 1 rfl ?_
  refine L_aload_n dL_law_1644 rfl 0 rfl ?_
  refine L_iload dL_law_1645 4 rfl ?_
  refine L_iconst (v := 1) dL_law_1647 rfl ?_
  refine L_iadd dL_law_1648 ?_
  refine L_sld (j := 6 * k + 1) (nI_add (6 * k) 1) (by omega) hL dL_law_1649 ?_
  refine L_aload_n dL_law_1650 rfl 3 rfl ?_
  refine L_callLed h1 (by omega) (by omega) dL_law_1651 (fun kv ov' hq => ?_)
  refine L_istore (ls' := (5, .int kv) :: [(0, .ref b), (1, .ref (G.ad 0 0)), (2, .ref (G.ad 32 0)), (3, .ref ao), (4, .int (nI (6 * k)))]) dL_law_1654 (by decide) rfl ?_
  refine L_aload_n dL_law_1656 rfl 3 rfl ?_
  refine L_aload_n dL_law_1657 rfl 1 rfl ?_
  refine L_iload dL_law_1658 5 rfl ?_
  refine L_iconst (v := 1) dL_law_1660 rfl ?_
  refine L_iadd dL_law_1661 ?_
  refine L_sld (j := 6 * k + 1) (nI_add (6 * k) 1) (by omega) hL dL_law_1662 ?_
  refine L_call1 (As := [.int (xs (6 * k + 1))]) (rest := []) h2 (sM_led G hm (xs (6 * k + 1))) ck_X9_led lk_L_215 ⟨rfl, rfl, Nat.le_of_ble_eq_true rfl, Nat.le_of_ble_eq_true rfl⟩ rfl rfl rfl rfl rfl (by omega) (by omega) dL_law_1663 ?_
  show LSim G b L xs ao 1666 _ [.int r] hc hm' ov' _ _
  refine L_istore (ls' := (6, .int r) :: (5, .int kv) :: [(0, .ref b), (1, .ref (G.ad 0 0)), (2, .ref (G.ad 32 0)), (3, .ref ao), (4, .int (nI (6 * k)))]) dL_law_1666 (by decide) rfl ?_
  refine L_aload_n dL_law_1668 rfl 4 rfl ?_
  refine L_call1 (As := []) (rest := []) h3 (sM_thrown G hm') ck_X9_thrown lk_L_216 ⟨rfl, rfl, Nat.le_of_ble_eq_true rfl, Nat.le_of_ble_eq_true rfl⟩ rfl rfl rfl rfl rfl (by omega) (by omega) dL_law_1669 ?_
  show LSim G b L xs ao 1672 _ [.int th] hc hm' ov' _ _
  refine L_iload dL_law_1672 1 rfl ?_
  rcases hq with ⟨hge, hkv, hov⟩ | ⟨hlt, hkv⟩
  · obtain ⟨ht, hrc⟩ := h5 hge
    refine L_icmp_eq_t (t := 1679) dL_law_1674 rfl (by rw [ht, hkv]) ?_
    refine L_iload dL_law_1679 1 rfl ?_
    refine L_if_ne_f (t := 1696) dL_law_1681 rfl hkv ?_
    refine L_aload_n dL_law_1684 rfl 5 rfl ?_
    refine L_iconst (v := 0) dL_law_1685 rfl ?_
    refine L_olald rfl dL_law_1686 ?_
    refine L_iload dL_law_1687 0 rfl ?_
    refine L_i2l dL_law_1689 ?_
    refine L_lcmp dL_law_1690 ?_
    refine L_if_eq_t (t := 1696) dL_law_1691 rfl (by rw [hov, hrc]; exact lg_cmp_self _) ?_
    refine L_goto (t := 1737) dL_law_1696 rfl ?_
    exact L_sub [2, 3, 4, 5, 6] rfl (hnext hc hm' ov' _ _ hR' (by omega) (by omega))
  · refine L_icmp_eq_t (t := 1679) dL_law_1674 rfl (by rw [h4 hlt, hkv]) ?_
    refine L_iload dL_law_1679 1 rfl ?_
    refine L_if_ne_t (t := 1696) dL_law_1681 rfl (by rw [hkv]; decide) ?_
    refine L_goto (t := 1737) dL_law_1696 rfl ?_
    exact L_sub [2, 3, 4, 5, 6] rfl (hnext hc hm' ov' _ _ hR' (by omega) (by omega))
set_option maxRecDepth 20000 in
set_option maxHeartbeats 2000000 in
theorem cs_size (G : JG) (b L : Nat) (xs : Nat → Int32) (ao k : Nat) (hL : L ≤ 3072) (hk : 6 * k + 6 ≤ L) (Rel : AH → AH → Prop) (hS : so_size Rel) (hnext : ∀ (hc hm : AH) (ov : Nat → Int64) (cells slots : Nat), Rel hc hm → cells ≤ 105 + (k + 1) → slots ≤ 42664 + 6 * (k + 1) → LSim G b L xs ao 1737 [(0, .ref b), (1, .ref (G.ad 0 0)), (2, .ref (G.ad 32 0)), (3, .ref ao), (4, .int (nI (6 * k)))] [] hc hm ov cells slots) (hc hm : AH) (ov : Nat → Int64) (cells slots : Nat) (hR : Rel hc hm) (hcs : cells ≤ 105 + k) (hss : slots ≤ 42664 + 6 * k) : LSim G b L xs ao 1699 [(0, .ref b), (1, .ref (G.ad 0 0)), (2, .ref (G.ad 32 0)), (3, .ref ao), (4, .int (nI (6 * k)))] [] hc hm ov cells slots := by
  obtain ⟨r, hm', h1, h2, hR'⟩ := hS hc hm hR (xs (6 * k + 1))
  refine L_aload_n dL_law_1699 rfl 1 rfl ?_
  refine L_aload_n dL_law_1700 rfl 0 rfl ?_
  refine L_iload dL_law_1701 4 rfl ?_
  refine L_iconst (v := 1) dL_law_1703 rfl ?_
  refine L_iadd dL_law_1704 ?_
  refine L_sld (j := 6 * k + 1) (nI_add (6 * k) 1) (by omega) hL dL_law_1705 ?_
  refine L_call0 (As := [.int (xs (6 * k + 1))]) (rest := []) h1 (sX_size G hc (xs (6 * k + 1))) ck_X8_size lk_L_219 ⟨rfl, rfl, Nat.le_of_ble_eq_true rfl, Nat.le_of_ble_eq_true rfl⟩ rfl rfl rfl rfl rfl (by omega) (by omega) dL_law_1706 ?_
  show LSim G b L xs ao 1709 _ [.int r] hc hm ov cells slots
  refine L_aload_n dL_law_1709 rfl 2 rfl ?_
  refine L_aload_n dL_law_1710 rfl 0 rfl ?_
  refine L_iload dL_law_1711 4 rfl ?_
  refine L_iconst (v := 1) dL_law_1713 rfl ?_
  refine L_iadd dL_law_1714 ?_
  refine L_sld (j := 6 * k + 1) (nI_add (6 * k) 1) (by omega) hL dL_law_1715 ?_
  refine L_call1 (As := [.int (xs (6 * k + 1))]) (rest := [.int r]) h2 (sM_size G hm (xs (6 * k + 1))) ck_X9_size lk_L_222 ⟨rfl, rfl, Nat.le_of_ble_eq_true rfl, Nat.le_of_ble_eq_true rfl⟩ rfl rfl rfl rfl rfl (by omega) (by omega) dL_law_1716 ?_
  show LSim G b L xs ao 1719 _ [.int r, .int r] hc hm' ov cells slots
  refine L_icmp_eq_t (t := 1737) dL_law_1719 rfl rfl ?_
  exact hnext hc hm' ov cells slots hR' (by omega) (by omega)
set_option maxRecDepth 20000 in
set_option maxHeartbeats 2000000 in
theorem cs_trouble (G : JG) (b L : Nat) (xs : Nat → Int32) (ao k : Nat) (hL : L ≤ 3072) (hk : 6 * k + 6 ≤ L) (Rel : AH → AH → Prop) (hS : so_trouble Rel) (hnext : ∀ (hc hm : AH) (ov : Nat → Int64) (cells slots : Nat), Rel hc hm → cells ≤ 105 + (k + 1) → slots ≤ 42664 + 6 * (k + 1) → LSim G b L xs ao 1737 [(0, .ref b), (1, .ref (G.ad 0 0)), (2, .ref (G.ad 32 0)), (3, .ref ao), (4, .int (nI (6 * k)))] [] hc hm ov cells slots) (hc hm : AH) (ov : Nat → Int64) (cells slots : Nat) (hR : Rel hc hm) (hcs : cells ≤ 105 + k) (hss : slots ≤ 42664 + 6 * k) : LSim G b L xs ao 1724 [(0, .ref b), (1, .ref (G.ad 0 0)), (2, .ref (G.ad 32 0)), (3, .ref ao), (4, .int (nI (6 * k)))] [] hc hm ov cells slots := by
  obtain ⟨r, hm', h1, h2, hR'⟩ := hS hc hm hR 
  refine L_aload_n dL_law_1724 rfl 1 rfl ?_
  refine L_call0 (As := []) (rest := []) h1 (sX_trouble G hc) ck_X8_trouble lk_L_223 ⟨rfl, rfl, Nat.le_of_ble_eq_true rfl, Nat.le_of_ble_eq_true rfl⟩ rfl rfl rfl rfl rfl (by omega) (by omega) dL_law_1725 ?_
  show LSim G b L xs ao 1728 _ [.int r] hc hm ov cells slots
  refine L_aload_n dL_law_1728 rfl 2 rfl ?_
  refine L_call1 (As := []) (rest := [.int r]) h2 (sM_trouble G hm) ck_X9_trouble lk_L_226 ⟨rfl, rfl, Nat.le_of_ble_eq_true rfl, Nat.le_of_ble_eq_true rfl⟩ rfl rfl rfl rfl rfl (by omega) (by omega) dL_law_1729 ?_
  show LSim G b L xs ao 1732 _ [.int r, .int r] hc hm' ov cells slots
  refine L_icmp_eq_t (t := 1737) dL_law_1732 rfl rfl ?_
  exact hnext hc hm' ov cells slots hR' (by omega) (by omega)
