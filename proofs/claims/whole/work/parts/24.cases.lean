theorem mk_JS_seen : MKV m_JS_seen 0 1 := ⟨⟨gt_at 969 (by decide +kernel) rfl, gt_at 71 (by decide +kernel) rfl, by decide +kernel, by decide +kernel, by decide +kernel⟩, gt_at 967 (by decide +kernel) rfl, gt_at 968 (by decide +kernel) rfl, _, _, rfl⟩
theorem lm_LW_100 : Cond.methodLink R_LW 100 (yM m_JS_seen) ∈ gt := gt_at 966 (by decide +kernel) rfl
theorem mk_MO_seen : MKV m_MO_seen 8 1 := ⟨⟨gt_at 1720 (by decide +kernel) rfl, gt_at 82 (by decide +kernel) rfl, by decide +kernel, by decide +kernel, by decide +kernel⟩, gt_at 1718 (by decide +kernel) rfl, gt_at 1719 (by decide +kernel) rfl, _, _, rfl⟩
theorem lm_LW_103 : Cond.methodLink R_LW 103 (yM m_MO_seen) ∈ gt := gt_at 1717 (by decide +kernel) rfl
theorem mk_JS_place : MKV m_JS_place 0 1 := ⟨⟨gt_at 981 (by decide +kernel) rfl, gt_at 71 (by decide +kernel) rfl, by decide +kernel, by decide +kernel, by decide +kernel⟩, gt_at 979 (by decide +kernel) rfl, gt_at 980 (by decide +kernel) rfl, _, _, rfl⟩
theorem lm_LW_104 : Cond.methodLink R_LW 104 (yM m_JS_place) ∈ gt := gt_at 978 (by decide +kernel) rfl
theorem mk_MO_place : MKV m_MO_place 8 1 := ⟨⟨gt_at 1724 (by decide +kernel) rfl, gt_at 82 (by decide +kernel) rfl, by decide +kernel, by decide +kernel, by decide +kernel⟩, gt_at 1722 (by decide +kernel) rfl, gt_at 1723 (by decide +kernel) rfl, _, _, rfl⟩
theorem lm_LW_107 : Cond.methodLink R_LW 107 (yM m_MO_place) ∈ gt := gt_at 1721 (by decide +kernel) rfl
theorem mk_JS_witness : MKV m_JS_witness 0 1 := ⟨⟨gt_at 985 (by decide +kernel) rfl, gt_at 71 (by decide +kernel) rfl, by decide +kernel, by decide +kernel, by decide +kernel⟩, gt_at 983 (by decide +kernel) rfl, gt_at 984 (by decide +kernel) rfl, _, _, rfl⟩
theorem lm_LW_108 : Cond.methodLink R_LW 108 (yM m_JS_witness) ∈ gt := gt_at 982 (by decide +kernel) rfl
theorem mk_MO_witness : MKV m_MO_witness 8 1 := ⟨⟨gt_at 1728 (by decide +kernel) rfl, gt_at 82 (by decide +kernel) rfl, by decide +kernel, by decide +kernel, by decide +kernel⟩, gt_at 1726 (by decide +kernel) rfl, gt_at 1727 (by decide +kernel) rfl, _, _, rfl⟩
theorem lm_LW_111 : Cond.methodLink R_LW 111 (yM m_MO_witness) ∈ gt := gt_at 1725 (by decide +kernel) rfl
theorem mk_JS_claim : MKV m_JS_claim 0 1 := ⟨⟨gt_at 989 (by decide +kernel) rfl, gt_at 71 (by decide +kernel) rfl, by decide +kernel, by decide +kernel, by decide +kernel⟩, gt_at 987 (by decide +kernel) rfl, gt_at 988 (by decide +kernel) rfl, _, _, rfl⟩
theorem lm_LW_112 : Cond.methodLink R_LW 112 (yM m_JS_claim) ∈ gt := gt_at 986 (by decide +kernel) rfl
theorem mk_MO_claim : MKV m_MO_claim 8 1 := ⟨⟨gt_at 1732 (by decide +kernel) rfl, gt_at 82 (by decide +kernel) rfl, by decide +kernel, by decide +kernel, by decide +kernel⟩, gt_at 1730 (by decide +kernel) rfl, gt_at 1731 (by decide +kernel) rfl, _, _, rfl⟩
theorem lm_LW_115 : Cond.methodLink R_LW 115 (yM m_MO_claim) ∈ gt := gt_at 1729 (by decide +kernel) rfl
theorem mk_JS_drop : MKV m_JS_drop 0 0 := ⟨⟨gt_at 997 (by decide +kernel) rfl, gt_at 71 (by decide +kernel) rfl, by decide +kernel, by decide +kernel, by decide +kernel⟩, gt_at 995 (by decide +kernel) rfl, gt_at 996 (by decide +kernel) rfl, _, _, rfl⟩
theorem lm_LW_116 : Cond.methodLink R_LW 116 (yM m_JS_drop) ∈ gt := gt_at 994 (by decide +kernel) rfl
theorem mk_MO_drop : MKV m_MO_drop 8 0 := ⟨⟨gt_at 1736 (by decide +kernel) rfl, gt_at 82 (by decide +kernel) rfl, by decide +kernel, by decide +kernel, by decide +kernel⟩, gt_at 1734 (by decide +kernel) rfl, gt_at 1735 (by decide +kernel) rfl, _, _, rfl⟩
theorem lm_LW_119 : Cond.methodLink R_LW 119 (yM m_MO_drop) ∈ gt := gt_at 1733 (by decide +kernel) rfl
theorem mk_JS_check : MKV m_JS_check 0 2 := ⟨⟨gt_at 1001 (by decide +kernel) rfl, gt_at 71 (by decide +kernel) rfl, by decide +kernel, by decide +kernel, by decide +kernel⟩, gt_at 999 (by decide +kernel) rfl, gt_at 1000 (by decide +kernel) rfl, _, _, rfl⟩
theorem lm_LW_120 : Cond.methodLink R_LW 120 (yM m_JS_check) ∈ gt := gt_at 998 (by decide +kernel) rfl
theorem mk_MO_check : MKV m_MO_check 8 2 := ⟨⟨gt_at 1740 (by decide +kernel) rfl, gt_at 82 (by decide +kernel) rfl, by decide +kernel, by decide +kernel, by decide +kernel⟩, gt_at 1738 (by decide +kernel) rfl, gt_at 1739 (by decide +kernel) rfl, _, _, rfl⟩
theorem lm_LW_123 : Cond.methodLink R_LW 123 (yM m_MO_check) ∈ gt := gt_at 1737 (by decide +kernel) rfl
theorem mk_JS_best : MKV m_JS_best 0 1 := ⟨⟨gt_at 1030 (by decide +kernel) rfl, gt_at 71 (by decide +kernel) rfl, by decide +kernel, by decide +kernel, by decide +kernel⟩, gt_at 1028 (by decide +kernel) rfl, gt_at 1029 (by decide +kernel) rfl, _, _, rfl⟩
theorem lm_LW_124 : Cond.methodLink R_LW 124 (yM m_JS_best) ∈ gt := gt_at 1027 (by decide +kernel) rfl
theorem mk_MO_best : MKV m_MO_best 8 1 := ⟨⟨gt_at 1756 (by decide +kernel) rfl, gt_at 82 (by decide +kernel) rfl, by decide +kernel, by decide +kernel, by decide +kernel⟩, gt_at 1754 (by decide +kernel) rfl, gt_at 1755 (by decide +kernel) rfl, _, _, rfl⟩
theorem lm_LW_127 : Cond.methodLink R_LW 127 (yM m_MO_best) ∈ gt := gt_at 1753 (by decide +kernel) rfl
theorem mk_JS_lines : MKV m_JS_lines 0 2 := ⟨⟨gt_at 1068 (by decide +kernel) rfl, gt_at 71 (by decide +kernel) rfl, by decide +kernel, by decide +kernel, by decide +kernel⟩, gt_at 1066 (by decide +kernel) rfl, gt_at 1067 (by decide +kernel) rfl, _, _, rfl⟩
theorem lm_LW_128 : Cond.methodLink R_LW 128 (yM m_JS_lines) ∈ gt := gt_at 1065 (by decide +kernel) rfl
theorem mk_JS_letter : MKV m_JS_letter 0 1 := ⟨⟨gt_at 588 (by decide +kernel) rfl, gt_at 71 (by decide +kernel) rfl, by decide +kernel, by decide +kernel, by decide +kernel⟩, gt_at 586 (by decide +kernel) rfl, gt_at 587 (by decide +kernel) rfl, _, _, rfl⟩
theorem lm_LW_13 : Cond.methodLink R_LW 13 (yM m_JS_letter) ∈ gt := gt_at 585 (by decide +kernel) rfl
theorem mk_MO_lines : MKV m_MO_lines 8 2 := ⟨⟨gt_at 1772 (by decide +kernel) rfl, gt_at 82 (by decide +kernel) rfl, by decide +kernel, by decide +kernel, by decide +kernel⟩, gt_at 1770 (by decide +kernel) rfl, gt_at 1771 (by decide +kernel) rfl, _, _, rfl⟩
theorem lm_LW_131 : Cond.methodLink R_LW 131 (yM m_MO_lines) ∈ gt := gt_at 1769 (by decide +kernel) rfl
theorem mk_JS_take : MKV m_JS_take 0 1 := ⟨⟨gt_at 1072 (by decide +kernel) rfl, gt_at 71 (by decide +kernel) rfl, by decide +kernel, by decide +kernel, by decide +kernel⟩, gt_at 1070 (by decide +kernel) rfl, gt_at 1071 (by decide +kernel) rfl, _, _, rfl⟩
theorem lm_LW_132 : Cond.methodLink R_LW 132 (yM m_JS_take) ∈ gt := gt_at 1069 (by decide +kernel) rfl
theorem mk_MO_take : MKV m_MO_take 8 1 := ⟨⟨gt_at 1776 (by decide +kernel) rfl, gt_at 82 (by decide +kernel) rfl, by decide +kernel, by decide +kernel, by decide +kernel⟩, gt_at 1774 (by decide +kernel) rfl, gt_at 1775 (by decide +kernel) rfl, _, _, rfl⟩
theorem lm_LW_135 : Cond.methodLink R_LW 135 (yM m_MO_take) ∈ gt := gt_at 1773 (by decide +kernel) rfl
theorem mk_JS_pages : MKV m_JS_pages 0 1 := ⟨⟨gt_at 1077 (by decide +kernel) rfl, gt_at 71 (by decide +kernel) rfl, by decide +kernel, by decide +kernel, by decide +kernel⟩, gt_at 1075 (by decide +kernel) rfl, gt_at 1076 (by decide +kernel) rfl, _, _, rfl⟩
theorem lm_LW_136 : Cond.methodLink R_LW 136 (yM m_JS_pages) ∈ gt := gt_at 1074 (by decide +kernel) rfl
theorem mk_MO_pages : MKV m_MO_pages 8 1 := ⟨⟨gt_at 1780 (by decide +kernel) rfl, gt_at 82 (by decide +kernel) rfl, by decide +kernel, by decide +kernel, by decide +kernel⟩, gt_at 1778 (by decide +kernel) rfl, gt_at 1779 (by decide +kernel) rfl, _, _, rfl⟩
theorem lm_LW_139 : Cond.methodLink R_LW 139 (yM m_MO_pages) ∈ gt := gt_at 1777 (by decide +kernel) rfl
theorem mk_JS_page : MKV m_JS_page 0 2 := ⟨⟨gt_at 1094 (by decide +kernel) rfl, gt_at 71 (by decide +kernel) rfl, by decide +kernel, by decide +kernel, by decide +kernel⟩, gt_at 1092 (by decide +kernel) rfl, gt_at 1093 (by decide +kernel) rfl, _, _, rfl⟩
theorem lm_LW_140 : Cond.methodLink R_LW 140 (yM m_JS_page) ∈ gt := gt_at 1091 (by decide +kernel) rfl
theorem mk_MO_page : MKV m_MO_page 8 2 := ⟨⟨gt_at 1785 (by decide +kernel) rfl, gt_at 82 (by decide +kernel) rfl, by decide +kernel, by decide +kernel, by decide +kernel⟩, gt_at 1783 (by decide +kernel) rfl, gt_at 1784 (by decide +kernel) rfl, _, _, rfl⟩
theorem lm_LW_143 : Cond.methodLink R_LW 143 (yM m_MO_page) ∈ gt := gt_at 1782 (by decide +kernel) rfl
theorem mk_JS_told : MKV m_JS_told 0 1 := ⟨⟨gt_at 1098 (by decide +kernel) rfl, gt_at 71 (by decide +kernel) rfl, by decide +kernel, by decide +kernel, by decide +kernel⟩, gt_at 1096 (by decide +kernel) rfl, gt_at 1097 (by decide +kernel) rfl, _, _, rfl⟩
theorem lm_LW_144 : Cond.methodLink R_LW 144 (yM m_JS_told) ∈ gt := gt_at 1095 (by decide +kernel) rfl
theorem mk_MO_told : MKV m_MO_told 8 1 := ⟨⟨gt_at 1789 (by decide +kernel) rfl, gt_at 82 (by decide +kernel) rfl, by decide +kernel, by decide +kernel, by decide +kernel⟩, gt_at 1787 (by decide +kernel) rfl, gt_at 1788 (by decide +kernel) rfl, _, _, rfl⟩
theorem lm_LW_147 : Cond.methodLink R_LW 147 (yM m_MO_told) ∈ gt := gt_at 1786 (by decide +kernel) rfl
theorem mk_MO_letter : MKV m_MO_letter 8 1 := ⟨⟨gt_at 1458 (by decide +kernel) rfl, gt_at 82 (by decide +kernel) rfl, by decide +kernel, by decide +kernel, by decide +kernel⟩, gt_at 1456 (by decide +kernel) rfl, gt_at 1457 (by decide +kernel) rfl, _, _, rfl⟩
theorem lm_LW_17 : Cond.methodLink R_LW 17 (yM m_MO_letter) ∈ gt := gt_at 1455 (by decide +kernel) rfl
theorem mk_JS_ligature : MKV m_JS_ligature 0 4 := ⟨⟨gt_at 596 (by decide +kernel) rfl, gt_at 71 (by decide +kernel) rfl, by decide +kernel, by decide +kernel, by decide +kernel⟩, gt_at 594 (by decide +kernel) rfl, gt_at 595 (by decide +kernel) rfl, _, _, rfl⟩
theorem lm_LW_18 : Cond.methodLink R_LW 18 (yM m_JS_ligature) ∈ gt := gt_at 593 (by decide +kernel) rfl
theorem mk_MO_ligature : MKV m_MO_ligature 8 4 := ⟨⟨gt_at 1474 (by decide +kernel) rfl, gt_at 82 (by decide +kernel) rfl, by decide +kernel, by decide +kernel, by decide +kernel⟩, gt_at 1472 (by decide +kernel) rfl, gt_at 1473 (by decide +kernel) rfl, _, _, rfl⟩
theorem lm_LW_22 : Cond.methodLink R_LW 22 (yM m_MO_ligature) ∈ gt := gt_at 1471 (by decide +kernel) rfl
theorem mk_JS_form : MKV m_JS_form 0 6 := ⟨⟨gt_at 624 (by decide +kernel) rfl, gt_at 71 (by decide +kernel) rfl, by decide +kernel, by decide +kernel, by decide +kernel⟩, gt_at 622 (by decide +kernel) rfl, gt_at 623 (by decide +kernel) rfl, _, _, rfl⟩
theorem lm_LW_23 : Cond.methodLink R_LW 23 (yM m_JS_form) ∈ gt := gt_at 621 (by decide +kernel) rfl
theorem mk_MO_form : MKV m_MO_form 8 6 := ⟨⟨gt_at 1486 (by decide +kernel) rfl, gt_at 82 (by decide +kernel) rfl, by decide +kernel, by decide +kernel, by decide +kernel⟩, gt_at 1484 (by decide +kernel) rfl, gt_at 1485 (by decide +kernel) rfl, _, _, rfl⟩
theorem lm_LW_27 : Cond.methodLink R_LW 27 (yM m_MO_form) ∈ gt := gt_at 1483 (by decide +kernel) rfl
theorem mk_JS_stretch : MKV m_JS_stretch 0 3 := ⟨⟨gt_at 646 (by decide +kernel) rfl, gt_at 71 (by decide +kernel) rfl, by decide +kernel, by decide +kernel, by decide +kernel⟩, gt_at 644 (by decide +kernel) rfl, gt_at 645 (by decide +kernel) rfl, _, _, rfl⟩
theorem lm_LW_28 : Cond.methodLink R_LW 28 (yM m_JS_stretch) ∈ gt := gt_at 643 (by decide +kernel) rfl
theorem mk_MO_stretch : MKV m_MO_stretch 8 3 := ⟨⟨gt_at 1502 (by decide +kernel) rfl, gt_at 82 (by decide +kernel) rfl, by decide +kernel, by decide +kernel, by decide +kernel⟩, gt_at 1500 (by decide +kernel) rfl, gt_at 1501 (by decide +kernel) rfl, _, _, rfl⟩
theorem lm_LW_32 : Cond.methodLink R_LW 32 (yM m_MO_stretch) ∈ gt := gt_at 1499 (by decide +kernel) rfl
theorem mk_JS_point : MKV m_JS_point 0 2 := ⟨⟨gt_at 658 (by decide +kernel) rfl, gt_at 71 (by decide +kernel) rfl, by decide +kernel, by decide +kernel, by decide +kernel⟩, gt_at 656 (by decide +kernel) rfl, gt_at 657 (by decide +kernel) rfl, _, _, rfl⟩
theorem lm_LW_33 : Cond.methodLink R_LW 33 (yM m_JS_point) ∈ gt := gt_at 655 (by decide +kernel) rfl
theorem mk_MO_point : MKV m_MO_point 8 2 := ⟨⟨gt_at 1516 (by decide +kernel) rfl, gt_at 82 (by decide +kernel) rfl, by decide +kernel, by decide +kernel, by decide +kernel⟩, gt_at 1514 (by decide +kernel) rfl, gt_at 1515 (by decide +kernel) rfl, _, _, rfl⟩
theorem lm_LW_37 : Cond.methodLink R_LW 37 (yM m_MO_point) ∈ gt := gt_at 1513 (by decide +kernel) rfl
theorem mk_JS_bar : MKV m_JS_bar 0 2 := ⟨⟨gt_at 662 (by decide +kernel) rfl, gt_at 71 (by decide +kernel) rfl, by decide +kernel, by decide +kernel, by decide +kernel⟩, gt_at 660 (by decide +kernel) rfl, gt_at 661 (by decide +kernel) rfl, _, _, rfl⟩
theorem lm_LW_38 : Cond.methodLink R_LW 38 (yM m_JS_bar) ∈ gt := gt_at 659 (by decide +kernel) rfl
theorem mk_MO_bar : MKV m_MO_bar 8 2 := ⟨⟨gt_at 1520 (by decide +kernel) rfl, gt_at 82 (by decide +kernel) rfl, by decide +kernel, by decide +kernel, by decide +kernel⟩, gt_at 1518 (by decide +kernel) rfl, gt_at 1519 (by decide +kernel) rfl, _, _, rfl⟩
theorem lm_LW_42 : Cond.methodLink R_LW 42 (yM m_MO_bar) ∈ gt := gt_at 1517 (by decide +kernel) rfl
theorem mk_JS_about : MKV m_JS_about 0 2 := ⟨⟨gt_at 666 (by decide +kernel) rfl, gt_at 71 (by decide +kernel) rfl, by decide +kernel, by decide +kernel, by decide +kernel⟩, gt_at 664 (by decide +kernel) rfl, gt_at 665 (by decide +kernel) rfl, _, _, rfl⟩
theorem lm_LW_43 : Cond.methodLink R_LW 43 (yM m_JS_about) ∈ gt := gt_at 663 (by decide +kernel) rfl
theorem mk_MO_about : MKV m_MO_about 8 2 := ⟨⟨gt_at 1524 (by decide +kernel) rfl, gt_at 82 (by decide +kernel) rfl, by decide +kernel, by decide +kernel, by decide +kernel⟩, gt_at 1522 (by decide +kernel) rfl, gt_at 1523 (by decide +kernel) rfl, _, _, rfl⟩
theorem lm_LW_46 : Cond.methodLink R_LW 46 (yM m_MO_about) ∈ gt := gt_at 1521 (by decide +kernel) rfl
theorem mk_JS_type : MKV m_JS_type 0 1 := ⟨⟨gt_at 670 (by decide +kernel) rfl, gt_at 71 (by decide +kernel) rfl, by decide +kernel, by decide +kernel, by decide +kernel⟩, gt_at 668 (by decide +kernel) rfl, gt_at 669 (by decide +kernel) rfl, _, _, rfl⟩
theorem lm_LW_47 : Cond.methodLink R_LW 47 (yM m_JS_type) ∈ gt := gt_at 667 (by decide +kernel) rfl
theorem mk_MO_type : MKV m_MO_type 8 1 := ⟨⟨gt_at 1528 (by decide +kernel) rfl, gt_at 82 (by decide +kernel) rfl, by decide +kernel, by decide +kernel, by decide +kernel⟩, gt_at 1526 (by decide +kernel) rfl, gt_at 1527 (by decide +kernel) rfl, _, _, rfl⟩
theorem lm_LW_50 : Cond.methodLink R_LW 50 (yM m_MO_type) ∈ gt := gt_at 1525 (by decide +kernel) rfl
theorem lm_LW_51 : Cond.methodLink R_LW 51 (yM m_JS_insert) ∈ gt := gt_at 686 (by decide +kernel) rfl
theorem lm_LW_54 : Cond.methodLink R_LW 54 (yM m_MO_insert) ∈ gt := gt_at 1541 (by decide +kernel) rfl
theorem mk_JS_remove : MKV m_JS_remove 0 1 := ⟨⟨gt_at 690 (by decide +kernel) rfl, gt_at 71 (by decide +kernel) rfl, by decide +kernel, by decide +kernel, by decide +kernel⟩, gt_at 688 (by decide +kernel) rfl, gt_at 689 (by decide +kernel) rfl, _, _, rfl⟩
theorem lm_LW_55 : Cond.methodLink R_LW 55 (yM m_JS_remove) ∈ gt := gt_at 687 (by decide +kernel) rfl
theorem mk_MO_remove : MKV m_MO_remove 8 1 := ⟨⟨gt_at 1545 (by decide +kernel) rfl, gt_at 82 (by decide +kernel) rfl, by decide +kernel, by decide +kernel, by decide +kernel⟩, gt_at 1543 (by decide +kernel) rfl, gt_at 1544 (by decide +kernel) rfl, _, _, rfl⟩
theorem lm_LW_58 : Cond.methodLink R_LW 58 (yM m_MO_remove) ∈ gt := gt_at 1542 (by decide +kernel) rfl
theorem mk_JS_undo : MKV m_JS_undo 0 0 := ⟨⟨gt_at 703 (by decide +kernel) rfl, gt_at 71 (by decide +kernel) rfl, by decide +kernel, by decide +kernel, by decide +kernel⟩, gt_at 701 (by decide +kernel) rfl, gt_at 702 (by decide +kernel) rfl, _, _, rfl⟩
theorem lm_LW_59 : Cond.methodLink R_LW 59 (yM m_JS_undo) ∈ gt := gt_at 700 (by decide +kernel) rfl
theorem mk_MO_undo : MKV m_MO_undo 8 0 := ⟨⟨gt_at 1553 (by decide +kernel) rfl, gt_at 82 (by decide +kernel) rfl, by decide +kernel, by decide +kernel, by decide +kernel⟩, gt_at 1551 (by decide +kernel) rfl, gt_at 1552 (by decide +kernel) rfl, _, _, rfl⟩
theorem lm_LW_63 : Cond.methodLink R_LW 63 (yM m_MO_undo) ∈ gt := gt_at 1550 (by decide +kernel) rfl
theorem mk_JS_text : MKV m_JS_text 0 1 := ⟨⟨gt_at 713 (by decide +kernel) rfl, gt_at 71 (by decide +kernel) rfl, by decide +kernel, by decide +kernel, by decide +kernel⟩, gt_at 711 (by decide +kernel) rfl, gt_at 712 (by decide +kernel) rfl, _, _, rfl⟩
theorem lm_LW_64 : Cond.methodLink R_LW 64 (yM m_JS_text) ∈ gt := gt_at 710 (by decide +kernel) rfl
theorem mk_MO_text : MKV m_MO_text 8 1 := ⟨⟨gt_at 1557 (by decide +kernel) rfl, gt_at 82 (by decide +kernel) rfl, by decide +kernel, by decide +kernel, by decide +kernel⟩, gt_at 1555 (by decide +kernel) rfl, gt_at 1556 (by decide +kernel) rfl, _, _, rfl⟩
theorem lm_LW_67 : Cond.methodLink R_LW 67 (yM m_MO_text) ∈ gt := gt_at 1554 (by decide +kernel) rfl
theorem mk_JS_shape : MKV m_JS_shape 0 2 := ⟨⟨gt_at 717 (by decide +kernel) rfl, gt_at 71 (by decide +kernel) rfl, by decide +kernel, by decide +kernel, by decide +kernel⟩, gt_at 715 (by decide +kernel) rfl, gt_at 716 (by decide +kernel) rfl, _, _, rfl⟩
theorem lm_LW_68 : Cond.methodLink R_LW 68 (yM m_JS_shape) ∈ gt := gt_at 714 (by decide +kernel) rfl
theorem mk_MO_shape : MKV m_MO_shape 8 2 := ⟨⟨gt_at 1561 (by decide +kernel) rfl, gt_at 82 (by decide +kernel) rfl, by decide +kernel, by decide +kernel, by decide +kernel⟩, gt_at 1559 (by decide +kernel) rfl, gt_at 1560 (by decide +kernel) rfl, _, _, rfl⟩
theorem lm_LW_71 : Cond.methodLink R_LW 71 (yM m_MO_shape) ∈ gt := gt_at 1558 (by decide +kernel) rfl
theorem mk_JS_words : MKV m_JS_words 0 0 := ⟨⟨gt_at 782 (by decide +kernel) rfl, gt_at 71 (by decide +kernel) rfl, by decide +kernel, by decide +kernel, by decide +kernel⟩, gt_at 780 (by decide +kernel) rfl, gt_at 781 (by decide +kernel) rfl, _, _, rfl⟩
theorem lm_LW_72 : Cond.methodLink R_LW 72 (yM m_JS_words) ∈ gt := gt_at 779 (by decide +kernel) rfl
theorem mk_MO_words : MKV m_MO_words 8 0 := ⟨⟨gt_at 1597 (by decide +kernel) rfl, gt_at 82 (by decide +kernel) rfl, by decide +kernel, by decide +kernel, by decide +kernel⟩, gt_at 1595 (by decide +kernel) rfl, gt_at 1596 (by decide +kernel) rfl, _, _, rfl⟩
theorem lm_LW_75 : Cond.methodLink R_LW 75 (yM m_MO_words) ∈ gt := gt_at 1594 (by decide +kernel) rfl
theorem mk_JS_line : MKV m_JS_line 0 3 := ⟨⟨gt_at 786 (by decide +kernel) rfl, gt_at 71 (by decide +kernel) rfl, by decide +kernel, by decide +kernel, by decide +kernel⟩, gt_at 784 (by decide +kernel) rfl, gt_at 785 (by decide +kernel) rfl, _, _, rfl⟩
theorem lm_LW_76 : Cond.methodLink R_LW 76 (yM m_JS_line) ∈ gt := gt_at 783 (by decide +kernel) rfl
theorem mk_MO_line : MKV m_MO_line 8 3 := ⟨⟨gt_at 1601 (by decide +kernel) rfl, gt_at 82 (by decide +kernel) rfl, by decide +kernel, by decide +kernel, by decide +kernel⟩, gt_at 1599 (by decide +kernel) rfl, gt_at 1600 (by decide +kernel) rfl, _, _, rfl⟩
theorem lm_LW_79 : Cond.methodLink R_LW 79 (yM m_MO_line) ∈ gt := gt_at 1598 (by decide +kernel) rfl
theorem mk_JS_near : MKV m_JS_near 0 1 := ⟨⟨gt_at 914 (by decide +kernel) rfl, gt_at 71 (by decide +kernel) rfl, by decide +kernel, by decide +kernel, by decide +kernel⟩, gt_at 912 (by decide +kernel) rfl, gt_at 913 (by decide +kernel) rfl, _, _, rfl⟩
theorem lm_LW_80 : Cond.methodLink R_LW 80 (yM m_JS_near) ∈ gt := gt_at 911 (by decide +kernel) rfl
theorem mk_MO_near : MKV m_MO_near 8 1 := ⟨⟨gt_at 1688 (by decide +kernel) rfl, gt_at 82 (by decide +kernel) rfl, by decide +kernel, by decide +kernel, by decide +kernel⟩, gt_at 1686 (by decide +kernel) rfl, gt_at 1687 (by decide +kernel) rfl, _, _, rfl⟩
theorem lm_LW_83 : Cond.methodLink R_LW 83 (yM m_MO_near) ∈ gt := gt_at 1685 (by decide +kernel) rfl
theorem mk_JS_plain : MKV m_JS_plain 0 2 := ⟨⟨gt_at 918 (by decide +kernel) rfl, gt_at 71 (by decide +kernel) rfl, by decide +kernel, by decide +kernel, by decide +kernel⟩, gt_at 916 (by decide +kernel) rfl, gt_at 917 (by decide +kernel) rfl, _, _, rfl⟩
theorem lm_LW_84 : Cond.methodLink R_LW 84 (yM m_JS_plain) ∈ gt := gt_at 915 (by decide +kernel) rfl
theorem mk_MO_plain : MKV m_MO_plain 8 2 := ⟨⟨gt_at 1692 (by decide +kernel) rfl, gt_at 82 (by decide +kernel) rfl, by decide +kernel, by decide +kernel, by decide +kernel⟩, gt_at 1690 (by decide +kernel) rfl, gt_at 1691 (by decide +kernel) rfl, _, _, rfl⟩
theorem lm_LW_87 : Cond.methodLink R_LW 87 (yM m_MO_plain) ∈ gt := gt_at 1689 (by decide +kernel) rfl
theorem mk_JS_atHand : MKV m_JS_atHand 0 1 := ⟨⟨gt_at 936 (by decide +kernel) rfl, gt_at 71 (by decide +kernel) rfl, by decide +kernel, by decide +kernel, by decide +kernel⟩, gt_at 934 (by decide +kernel) rfl, gt_at 935 (by decide +kernel) rfl, _, _, rfl⟩
theorem lm_LW_88 : Cond.methodLink R_LW 88 (yM m_JS_atHand) ∈ gt := gt_at 933 (by decide +kernel) rfl
theorem mk_MO_atHand : MKV m_MO_atHand 8 1 := ⟨⟨gt_at 1704 (by decide +kernel) rfl, gt_at 82 (by decide +kernel) rfl, by decide +kernel, by decide +kernel, by decide +kernel⟩, gt_at 1702 (by decide +kernel) rfl, gt_at 1703 (by decide +kernel) rfl, _, _, rfl⟩
theorem lm_LW_91 : Cond.methodLink R_LW 91 (yM m_MO_atHand) ∈ gt := gt_at 1701 (by decide +kernel) rfl
theorem mk_JS_piece : MKV m_JS_piece 0 2 := ⟨⟨gt_at 958 (by decide +kernel) rfl, gt_at 71 (by decide +kernel) rfl, by decide +kernel, by decide +kernel, by decide +kernel⟩, gt_at 956 (by decide +kernel) rfl, gt_at 957 (by decide +kernel) rfl, _, _, rfl⟩
theorem lm_LW_92 : Cond.methodLink R_LW 92 (yM m_JS_piece) ∈ gt := gt_at 955 (by decide +kernel) rfl
theorem mk_MO_piece : MKV m_MO_piece 8 2 := ⟨⟨gt_at 1709 (by decide +kernel) rfl, gt_at 82 (by decide +kernel) rfl, by decide +kernel, by decide +kernel, by decide +kernel⟩, gt_at 1707 (by decide +kernel) rfl, gt_at 1708 (by decide +kernel) rfl, _, _, rfl⟩
theorem lm_LW_95 : Cond.methodLink R_LW 95 (yM m_MO_piece) ∈ gt := gt_at 1706 (by decide +kernel) rfl
theorem mk_JS_mark : MKV m_JS_mark 0 2 := ⟨⟨gt_at 962 (by decide +kernel) rfl, gt_at 71 (by decide +kernel) rfl, by decide +kernel, by decide +kernel, by decide +kernel⟩, gt_at 960 (by decide +kernel) rfl, gt_at 961 (by decide +kernel) rfl, _, _, rfl⟩
theorem lm_LW_96 : Cond.methodLink R_LW 96 (yM m_JS_mark) ∈ gt := gt_at 959 (by decide +kernel) rfl
theorem mk_MO_mark : MKV m_MO_mark 8 2 := ⟨⟨gt_at 1713 (by decide +kernel) rfl, gt_at 82 (by decide +kernel) rfl, by decide +kernel, by decide +kernel, by decide +kernel⟩, gt_at 1711 (by decide +kernel) rfl, gt_at 1712 (by decide +kernel) rfl, _, _, rfl⟩
theorem lm_LW_99 : Cond.methodLink R_LW 99 (yM m_MO_mark) ∈ gt := gt_at 1710 (by decide +kernel) rfl
theorem lc_0 {G : GT} {b Ln : Nat} {xs : Nat → Int32} {σ : St} {Inv : St → Prop} {i : Int} (hi : 0 ≤ i ∧ i + 7 ≤ Ln) (hLn : Ln ≤ 3584)
    (hs : CJ G m_JS_letter [O 0, I (xs (i + 1).toNat).toInt] σ (fun r1 σ1 => CJ G m_MO_letter [O 8, I (xs (i + 1).toNat).toInt] σ1 (fun r2 σ2 => r1 = r2 ∧ Inv σ2)))
    (hL : ∀ σ2, Inv σ2 → AL G b Ln xs 1146 [(0, .ref b), (1, .ref (aG G 0)), (2, .ref (aG G 8)), (3, .int (Int32.ofInt i))] [] σ2) : AL G b Ln xs 176 [(0, .ref b), (1, .ref (aG G 0)), (2, .ref (aG G 8)), (3, .int (Int32.ofInt i))] [] σ := by
  refine l_aload (q := 177) (dc dl_0 22 rfl) rfl rfl 1 rfl ?_
  refine l_aload (q := 178) (dc dl_0 23 rfl) rfl rfl 0 rfl ?_
  refine l_iload (q := 179) (dc dl_0 24 rfl) rfl rfl 3 rfl ?_
  refine l_iconst (q := 180) (dc dl_0 25 rfl) rfl ?_
  refine l_iadd (q := 181) (dc dl_0 26 rfl) rfl ?_
  refine l_sld (q := 182) (dc dl_0 27 rfl) rfl (by omega) (by omega) ?_
  refine l_call (q := 185) [I (xs (i + 1).toNat).toInt] mk_JS_letter lm_LW_13 ⟨Nat.le_of_ble_eq_true rfl, Nat.le_of_ble_eq_true rfl⟩ rfl (dc dl_0 28 rfl) rfl ly0 rfl rfl (Nat.le_of_ble_eq_true rfl) hs (fun r1 σ1 _ hs => ?_)
  refine l_aload (q := 186) (dc dl_0 29 rfl) rfl rfl 2 rfl ?_
  refine l_aload (q := 187) (dc dl_0 30 rfl) rfl rfl 0 rfl ?_
  refine l_iload (q := 188) (dc dl_0 31 rfl) rfl rfl 3 rfl ?_
  refine l_iconst (q := 189) (dc dl_0 32 rfl) rfl ?_
  refine l_iadd (q := 190) (dc dl_0 33 rfl) rfl ?_
  refine l_sld (q := 191) (dc dl_0 34 rfl) rfl (by omega) (by omega) ?_
  refine l_call (q := 194) [I (xs (i + 1).toNat).toInt] mk_MO_letter lm_LW_17 ⟨Nat.le_of_ble_eq_true rfl, Nat.le_of_ble_eq_true rfl⟩ rfl (dc dl_0 35 rfl) rfl ly8 rfl rfl (Nat.le_of_ble_eq_true rfl) hs (fun r2 σ2 _ hs => ?_)
  obtain ⟨rfl, hI⟩ := hs
  refine l_same (t := 1146) (dc dl_0 36 rfl) (by decide) ?_
  exact hL _ hI
theorem lc_1 {G : GT} {b Ln : Nat} {xs : Nat → Int32} {σ : St} {Inv : St → Prop} {i : Int} (hi : 0 ≤ i ∧ i + 7 ≤ Ln) (hLn : Ln ≤ 3584)
    (hs : CJ G m_JS_ligature [O 0, I (xs (i + 1).toNat).toInt, I (xs (i + 2).toNat).toInt, I (xs (i + 3).toNat).toInt, I (if (xs (i + 4).toNat).toInt = 0 then 0 else 1)] σ (fun r1 σ1 => CJ G m_MO_ligature [O 8, I (xs (i + 1).toNat).toInt, I (xs (i + 2).toNat).toInt, I (xs (i + 3).toNat).toInt, I (if (xs (i + 4).toNat).toInt = 0 then 0 else 1)] σ1 (fun r2 σ2 => r1 = r2 ∧ Inv σ2)))
    (hL : ∀ σ2, Inv σ2 → AL G b Ln xs 1146 [(0, .ref b), (1, .ref (aG G 0)), (2, .ref (aG G 8)), (3, .int (Int32.ofInt i))] [] σ2) : AL G b Ln xs 199 [(0, .ref b), (1, .ref (aG G 0)), (2, .ref (aG G 8)), (3, .int (Int32.ofInt i))] [] σ := by
  by_cases hz : (xs (i + 4).toNat).toInt = 0
  · simp only [if_pos hz] at hs
    refine l_aload (q := 200) (dc dl_0 39 rfl) rfl rfl 1 rfl ?_
    refine l_aload (q := 201) (dc dl_0 40 rfl) rfl rfl 0 rfl ?_
    refine l_iload (q := 202) (dc dl_0 41 rfl) rfl rfl 3 rfl ?_
    refine l_iconst (q := 203) (dc dl_0 42 rfl) rfl ?_
    refine l_iadd (q := 204) (dc dl_0 43 rfl) rfl ?_
    refine l_sld (q := 205) (dc dl_0 44 rfl) rfl (by omega) (by omega) ?_
    refine l_aload (q := 206) (dc dl_0 45 rfl) rfl rfl 0 rfl ?_
    refine l_iload (q := 207) (dc dl_0 46 rfl) rfl rfl 3 rfl ?_
    refine l_iconst (q := 208) (dc dl_0 47 rfl) rfl ?_
    refine l_iadd (q := 209) (dc dl_0 48 rfl) rfl ?_
    refine l_sld (q := 210) (dc dl_0 49 rfl) rfl (by omega) (by omega) ?_
    refine l_aload (q := 211) (dc dl_1 0 rfl) rfl rfl 0 rfl ?_
    refine l_iload (q := 212) (dc dl_1 1 rfl) rfl rfl 3 rfl ?_
    refine l_iconst (q := 213) (dc dl_1 2 rfl) rfl ?_
    refine l_iadd (q := 214) (dc dl_1 3 rfl) rfl ?_
    refine l_sld (q := 215) (dc dl_1 4 rfl) rfl (by omega) (by omega) ?_
    refine l_aload (q := 216) (dc dl_1 5 rfl) rfl rfl 0 rfl ?_
    refine l_iload (q := 217) (dc dl_1 6 rfl) rfl rfl 3 rfl ?_
    refine l_iconst (q := 218) (dc dl_1 7 rfl) rfl ?_
    refine l_iadd (q := 219) (dc dl_1 8 rfl) rfl ?_
    refine l_sld (q := 220) (dc dl_1 9 rfl) rfl (by omega) (by omega) ?_
    refine l_eqT (t := 227) (dc dl_1 10 rfl) (by decide) (by rw [hz]; rfl) ?_
    refine l_iconst (q := 228) (dc dl_1 13 rfl) rfl ?_
    refine l_call (q := 231) [I (xs (i + 1).toNat).toInt, I (xs (i + 2).toNat).toInt, I (xs (i + 3).toNat).toInt, I (0)] mk_JS_ligature lm_LW_18 ⟨Nat.le_of_ble_eq_true rfl, Nat.le_of_ble_eq_true rfl⟩ rfl (dc dl_1 14 rfl) rfl ly0 rfl rfl (Nat.le_of_ble_eq_true rfl) hs (fun r1 σ1 _ hs => ?_)
    refine l_aload (q := 232) (dc dl_1 15 rfl) rfl rfl 2 rfl ?_
    refine l_aload (q := 233) (dc dl_1 16 rfl) rfl rfl 0 rfl ?_
    refine l_iload (q := 234) (dc dl_1 17 rfl) rfl rfl 3 rfl ?_
    refine l_iconst (q := 235) (dc dl_1 18 rfl) rfl ?_
    refine l_iadd (q := 236) (dc dl_1 19 rfl) rfl ?_
    refine l_sld (q := 237) (dc dl_1 20 rfl) rfl (by omega) (by omega) ?_
    refine l_aload (q := 238) (dc dl_1 21 rfl) rfl rfl 0 rfl ?_
    refine l_iload (q := 239) (dc dl_1 22 rfl) rfl rfl 3 rfl ?_
    refine l_iconst (q := 240) (dc dl_1 23 rfl) rfl ?_
    refine l_iadd (q := 241) (dc dl_1 24 rfl) rfl ?_
    refine l_sld (q := 242) (dc dl_1 25 rfl) rfl (by omega) (by omega) ?_
    refine l_aload (q := 243) (dc dl_1 26 rfl) rfl rfl 0 rfl ?_
    refine l_iload (q := 244) (dc dl_1 27 rfl) rfl rfl 3 rfl ?_
    refine l_iconst (q := 245) (dc dl_1 28 rfl) rfl ?_
    refine l_iadd (q := 246) (dc dl_1 29 rfl) rfl ?_
    refine l_sld (q := 247) (dc dl_1 30 rfl) rfl (by omega) (by omega) ?_
    refine l_aload (q := 248) (dc dl_1 31 rfl) rfl rfl 0 rfl ?_
    refine l_iload (q := 249) (dc dl_1 32 rfl) rfl rfl 3 rfl ?_
    refine l_iconst (q := 250) (dc dl_1 33 rfl) rfl ?_
    refine l_iadd (q := 251) (dc dl_1 34 rfl) rfl ?_
    refine l_sld (q := 252) (dc dl_1 35 rfl) rfl (by omega) (by omega) ?_
    refine l_eqT (t := 259) (dc dl_1 36 rfl) (by decide) (by rw [hz]; rfl) ?_
    refine l_iconst (q := 260) (dc dl_1 39 rfl) rfl ?_
    refine l_call (q := 263) [I (xs (i + 1).toNat).toInt, I (xs (i + 2).toNat).toInt, I (xs (i + 3).toNat).toInt, I (0)] mk_MO_ligature lm_LW_22 ⟨Nat.le_of_ble_eq_true rfl, Nat.le_of_ble_eq_true rfl⟩ rfl (dc dl_1 40 rfl) rfl ly8 rfl rfl (Nat.le_of_ble_eq_true rfl) hs (fun r2 σ2 _ hs => ?_)
    obtain ⟨rfl, hI⟩ := hs
    refine l_same (t := 1146) (dc dl_1 41 rfl) (by decide) ?_
    exact hL _ hI
  · simp only [if_neg hz] at hs
    refine l_aload (q := 200) (dc dl_0 39 rfl) rfl rfl 1 rfl ?_
    refine l_aload (q := 201) (dc dl_0 40 rfl) rfl rfl 0 rfl ?_
    refine l_iload (q := 202) (dc dl_0 41 rfl) rfl rfl 3 rfl ?_
    refine l_iconst (q := 203) (dc dl_0 42 rfl) rfl ?_
    refine l_iadd (q := 204) (dc dl_0 43 rfl) rfl ?_
    refine l_sld (q := 205) (dc dl_0 44 rfl) rfl (by omega) (by omega) ?_
    refine l_aload (q := 206) (dc dl_0 45 rfl) rfl rfl 0 rfl ?_
    refine l_iload (q := 207) (dc dl_0 46 rfl) rfl rfl 3 rfl ?_
    refine l_iconst (q := 208) (dc dl_0 47 rfl) rfl ?_
    refine l_iadd (q := 209) (dc dl_0 48 rfl) rfl ?_
    refine l_sld (q := 210) (dc dl_0 49 rfl) rfl (by omega) (by omega) ?_
    refine l_aload (q := 211) (dc dl_1 0 rfl) rfl rfl 0 rfl ?_
    refine l_iload (q := 212) (dc dl_1 1 rfl) rfl rfl 3 rfl ?_
    refine l_iconst (q := 213) (dc dl_1 2 rfl) rfl ?_
    refine l_iadd (q := 214) (dc dl_1 3 rfl) rfl ?_
    refine l_sld (q := 215) (dc dl_1 4 rfl) rfl (by omega) (by omega) ?_
    refine l_aload (q := 216) (dc dl_1 5 rfl) rfl rfl 0 rfl ?_
    refine l_iload (q := 217) (dc dl_1 6 rfl) rfl rfl 3 rfl ?_
    refine l_iconst (q := 218) (dc dl_1 7 rfl) rfl ?_
    refine l_iadd (q := 219) (dc dl_1 8 rfl) rfl ?_
    refine l_sld (q := 220) (dc dl_1 9 rfl) rfl (by omega) (by omega) ?_
    refine l_eqF (q := 223) (t := 227) (dc dl_1 10 rfl) rfl (by decide) (fun z => hz (by have z : Int32.ofInt _ = Int32.ofInt 0 := z; exact (oi_eq (rng_toInt _) ⟨by decide, by decide⟩).mp z)) ?_
    refine l_iconst (q := 224) (dc dl_1 11 rfl) rfl ?_
    refine l_goto (q := 228) (dc dl_1 12 rfl) (by decide) ?_
    refine l_call (q := 231) [I (xs (i + 1).toNat).toInt, I (xs (i + 2).toNat).toInt, I (xs (i + 3).toNat).toInt, I (1)] mk_JS_ligature lm_LW_18 ⟨Nat.le_of_ble_eq_true rfl, Nat.le_of_ble_eq_true rfl⟩ rfl (dc dl_1 14 rfl) rfl ly0 rfl rfl (Nat.le_of_ble_eq_true rfl) hs (fun r1 σ1 _ hs => ?_)
    refine l_aload (q := 232) (dc dl_1 15 rfl) rfl rfl 2 rfl ?_
    refine l_aload (q := 233) (dc dl_1 16 rfl) rfl rfl 0 rfl ?_
    refine l_iload (q := 234) (dc dl_1 17 rfl) rfl rfl 3 rfl ?_
    refine l_iconst (q := 235) (dc dl_1 18 rfl) rfl ?_
    refine l_iadd (q := 236) (dc dl_1 19 rfl) rfl ?_
    refine l_sld (q := 237) (dc dl_1 20 rfl) rfl (by omega) (by omega) ?_
    refine l_aload (q := 238) (dc dl_1 21 rfl) rfl rfl 0 rfl ?_
    refine l_iload (q := 239) (dc dl_1 22 rfl) rfl rfl 3 rfl ?_
    refine l_iconst (q := 240) (dc dl_1 23 rfl) rfl ?_
    refine l_iadd (q := 241) (dc dl_1 24 rfl) rfl ?_
    refine l_sld (q := 242) (dc dl_1 25 rfl) rfl (by omega) (by omega) ?_
    refine l_aload (q := 243) (dc dl_1 26 rfl) rfl rfl 0 rfl ?_
    refine l_iload (q := 244) (dc dl_1 27 rfl) rfl rfl 3 rfl ?_
    refine l_iconst (q := 245) (dc dl_1 28 rfl) rfl ?_
    refine l_iadd (q := 246) (dc dl_1 29 rfl) rfl ?_
    refine l_sld (q := 247) (dc dl_1 30 rfl) rfl (by omega) (by omega) ?_
    refine l_aload (q := 248) (dc dl_1 31 rfl) rfl rfl 0 rfl ?_
    refine l_iload (q := 249) (dc dl_1 32 rfl) rfl rfl 3 rfl ?_
    refine l_iconst (q := 250) (dc dl_1 33 rfl) rfl ?_
    refine l_iadd (q := 251) (dc dl_1 34 rfl) rfl ?_
    refine l_sld (q := 252) (dc dl_1 35 rfl) rfl (by omega) (by omega) ?_
    refine l_eqF (q := 255) (t := 259) (dc dl_1 36 rfl) rfl (by decide) (fun z => hz (by have z : Int32.ofInt _ = Int32.ofInt 0 := z; exact (oi_eq (rng_toInt _) ⟨by decide, by decide⟩).mp z)) ?_
    refine l_iconst (q := 256) (dc dl_1 37 rfl) rfl ?_
    refine l_goto (q := 260) (dc dl_1 38 rfl) (by decide) ?_
    refine l_call (q := 263) [I (xs (i + 1).toNat).toInt, I (xs (i + 2).toNat).toInt, I (xs (i + 3).toNat).toInt, I (1)] mk_MO_ligature lm_LW_22 ⟨Nat.le_of_ble_eq_true rfl, Nat.le_of_ble_eq_true rfl⟩ rfl (dc dl_1 40 rfl) rfl ly8 rfl rfl (Nat.le_of_ble_eq_true rfl) hs (fun r2 σ2 _ hs => ?_)
    obtain ⟨rfl, hI⟩ := hs
    refine l_same (t := 1146) (dc dl_1 41 rfl) (by decide) ?_
    exact hL _ hI
theorem lc_2 {G : GT} {b Ln : Nat} {xs : Nat → Int32} {σ : St} {Inv : St → Prop} {i : Int} (hi : 0 ≤ i ∧ i + 7 ≤ Ln) (hLn : Ln ≤ 3584)
    (hs : CJ G m_JS_form [O 0, I (xs (i + 1).toNat).toInt, I (xs (i + 2).toNat).toInt, I (xs (i + 3).toNat).toInt, I (xs (i + 4).toNat).toInt, I (xs (i + 5).toNat).toInt, I (xs (i + 6).toNat).toInt] σ (fun r1 σ1 => CJ G m_MO_form [O 8, I (xs (i + 1).toNat).toInt, I (xs (i + 2).toNat).toInt, I (xs (i + 3).toNat).toInt, I (xs (i + 4).toNat).toInt, I (xs (i + 5).toNat).toInt, I (xs (i + 6).toNat).toInt] σ1 (fun r2 σ2 => r1 = r2 ∧ Inv σ2)))
    (hL : ∀ σ2, Inv σ2 → AL G b Ln xs 1146 [(0, .ref b), (1, .ref (aG G 0)), (2, .ref (aG G 8)), (3, .int (Int32.ofInt i))] [] σ2) : AL G b Ln xs 268 [(0, .ref b), (1, .ref (aG G 0)), (2, .ref (aG G 8)), (3, .int (Int32.ofInt i))] [] σ := by
  refine l_aload (q := 269) (dc dl_1 44 rfl) rfl rfl 1 rfl ?_
  refine l_aload (q := 270) (dc dl_1 45 rfl) rfl rfl 0 rfl ?_
  refine l_iload (q := 271) (dc dl_1 46 rfl) rfl rfl 3 rfl ?_
  refine l_iconst (q := 272) (dc dl_1 47 rfl) rfl ?_
  refine l_iadd (q := 273) (dc dl_1 48 rfl) rfl ?_
  refine l_sld (q := 274) (dc dl_1 49 rfl) rfl (by omega) (by omega) ?_
  refine l_aload (q := 275) (dc dl_2 0 rfl) rfl rfl 0 rfl ?_
  refine l_iload (q := 276) (dc dl_2 1 rfl) rfl rfl 3 rfl ?_
  refine l_iconst (q := 277) (dc dl_2 2 rfl) rfl ?_
  refine l_iadd (q := 278) (dc dl_2 3 rfl) rfl ?_
  refine l_sld (q := 279) (dc dl_2 4 rfl) rfl (by omega) (by omega) ?_
  refine l_aload (q := 280) (dc dl_2 5 rfl) rfl rfl 0 rfl ?_
  refine l_iload (q := 281) (dc dl_2 6 rfl) rfl rfl 3 rfl ?_
  refine l_iconst (q := 282) (dc dl_2 7 rfl) rfl ?_
  refine l_iadd (q := 283) (dc dl_2 8 rfl) rfl ?_
  refine l_sld (q := 284) (dc dl_2 9 rfl) rfl (by omega) (by omega) ?_
  refine l_aload (q := 285) (dc dl_2 10 rfl) rfl rfl 0 rfl ?_
  refine l_iload (q := 286) (dc dl_2 11 rfl) rfl rfl 3 rfl ?_
  refine l_iconst (q := 287) (dc dl_2 12 rfl) rfl ?_
  refine l_iadd (q := 288) (dc dl_2 13 rfl) rfl ?_
  refine l_sld (q := 289) (dc dl_2 14 rfl) rfl (by omega) (by omega) ?_
  refine l_aload (q := 290) (dc dl_2 15 rfl) rfl rfl 0 rfl ?_
  refine l_iload (q := 291) (dc dl_2 16 rfl) rfl rfl 3 rfl ?_
  refine l_iconst (q := 292) (dc dl_2 17 rfl) rfl ?_
  refine l_iadd (q := 293) (dc dl_2 18 rfl) rfl ?_
  refine l_sld (q := 294) (dc dl_2 19 rfl) rfl (by omega) (by omega) ?_
  refine l_aload (q := 295) (dc dl_2 20 rfl) rfl rfl 0 rfl ?_
  refine l_iload (q := 296) (dc dl_2 21 rfl) rfl rfl 3 rfl ?_
  refine l_bipush (q := 298) (dc dl_2 22 rfl) rfl (by decide) ?_
  refine l_iadd (q := 299) (dc dl_2 23 rfl) rfl ?_
  refine l_sld (q := 300) (dc dl_2 24 rfl) rfl (by omega) (by omega) ?_
  refine l_call (q := 303) [I (xs (i + 1).toNat).toInt, I (xs (i + 2).toNat).toInt, I (xs (i + 3).toNat).toInt, I (xs (i + 4).toNat).toInt, I (xs (i + 5).toNat).toInt, I (xs (i + 6).toNat).toInt] mk_JS_form lm_LW_23 ⟨Nat.le_of_ble_eq_true rfl, Nat.le_of_ble_eq_true rfl⟩ rfl (dc dl_2 25 rfl) rfl ly0 rfl rfl (Nat.le_of_ble_eq_true rfl) hs (fun r1 σ1 _ hs => ?_)
  refine l_aload (q := 304) (dc dl_2 26 rfl) rfl rfl 2 rfl ?_
  refine l_aload (q := 305) (dc dl_2 27 rfl) rfl rfl 0 rfl ?_
  refine l_iload (q := 306) (dc dl_2 28 rfl) rfl rfl 3 rfl ?_
  refine l_iconst (q := 307) (dc dl_2 29 rfl) rfl ?_
  refine l_iadd (q := 308) (dc dl_2 30 rfl) rfl ?_
  refine l_sld (q := 309) (dc dl_2 31 rfl) rfl (by omega) (by omega) ?_
  refine l_aload (q := 310) (dc dl_2 32 rfl) rfl rfl 0 rfl ?_
  refine l_iload (q := 311) (dc dl_2 33 rfl) rfl rfl 3 rfl ?_
  refine l_iconst (q := 312) (dc dl_2 34 rfl) rfl ?_
  refine l_iadd (q := 313) (dc dl_2 35 rfl) rfl ?_
  refine l_sld (q := 314) (dc dl_2 36 rfl) rfl (by omega) (by omega) ?_
  refine l_aload (q := 315) (dc dl_2 37 rfl) rfl rfl 0 rfl ?_
  refine l_iload (q := 316) (dc dl_2 38 rfl) rfl rfl 3 rfl ?_
  refine l_iconst (q := 317) (dc dl_2 39 rfl) rfl ?_
  refine l_iadd (q := 318) (dc dl_2 40 rfl) rfl ?_
  refine l_sld (q := 319) (dc dl_2 41 rfl) rfl (by omega) (by omega) ?_
  refine l_aload (q := 320) (dc dl_2 42 rfl) rfl rfl 0 rfl ?_
  refine l_iload (q := 321) (dc dl_2 43 rfl) rfl rfl 3 rfl ?_
  refine l_iconst (q := 322) (dc dl_2 44 rfl) rfl ?_
  refine l_iadd (q := 323) (dc dl_2 45 rfl) rfl ?_
  refine l_sld (q := 324) (dc dl_2 46 rfl) rfl (by omega) (by omega) ?_
  refine l_aload (q := 325) (dc dl_2 47 rfl) rfl rfl 0 rfl ?_
  refine l_iload (q := 326) (dc dl_2 48 rfl) rfl rfl 3 rfl ?_
  refine l_iconst (q := 327) (dc dl_2 49 rfl) rfl ?_
  refine l_iadd (q := 328) (dc dl_3 0 rfl) rfl ?_
  refine l_sld (q := 329) (dc dl_3 1 rfl) rfl (by omega) (by omega) ?_
  refine l_aload (q := 330) (dc dl_3 2 rfl) rfl rfl 0 rfl ?_
  refine l_iload (q := 331) (dc dl_3 3 rfl) rfl rfl 3 rfl ?_
  refine l_bipush (q := 333) (dc dl_3 4 rfl) rfl (by decide) ?_
  refine l_iadd (q := 334) (dc dl_3 5 rfl) rfl ?_
  refine l_sld (q := 335) (dc dl_3 6 rfl) rfl (by omega) (by omega) ?_
  refine l_call (q := 338) [I (xs (i + 1).toNat).toInt, I (xs (i + 2).toNat).toInt, I (xs (i + 3).toNat).toInt, I (xs (i + 4).toNat).toInt, I (xs (i + 5).toNat).toInt, I (xs (i + 6).toNat).toInt] mk_MO_form lm_LW_27 ⟨Nat.le_of_ble_eq_true rfl, Nat.le_of_ble_eq_true rfl⟩ rfl (dc dl_3 7 rfl) rfl ly8 rfl rfl (Nat.le_of_ble_eq_true rfl) hs (fun r2 σ2 _ hs => ?_)
  obtain ⟨rfl, hI⟩ := hs
  refine l_same (t := 1146) (dc dl_3 8 rfl) (by decide) ?_
  exact hL _ hI
theorem lc_3 {G : GT} {b Ln : Nat} {xs : Nat → Int32} {σ : St} {Inv : St → Prop} {i : Int} (hi : 0 ≤ i ∧ i + 7 ≤ Ln) (hLn : Ln ≤ 3584)
    (hs : CJ G m_JS_stretch [O 0, I (xs (i + 1).toNat).toInt, I (xs (i + 2).toNat).toInt, I (xs (i + 3).toNat).toInt] σ (fun r1 σ1 => CJ G m_MO_stretch [O 8, I (xs (i + 1).toNat).toInt, I (xs (i + 2).toNat).toInt, I (xs (i + 3).toNat).toInt] σ1 (fun r2 σ2 => r1 = r2 ∧ Inv σ2)))
    (hL : ∀ σ2, Inv σ2 → AL G b Ln xs 1146 [(0, .ref b), (1, .ref (aG G 0)), (2, .ref (aG G 8)), (3, .int (Int32.ofInt i))] [] σ2) : AL G b Ln xs 343 [(0, .ref b), (1, .ref (aG G 0)), (2, .ref (aG G 8)), (3, .int (Int32.ofInt i))] [] σ := by
  refine l_aload (q := 344) (dc dl_3 11 rfl) rfl rfl 1 rfl ?_
  refine l_aload (q := 345) (dc dl_3 12 rfl) rfl rfl 0 rfl ?_
  refine l_iload (q := 346) (dc dl_3 13 rfl) rfl rfl 3 rfl ?_
  refine l_iconst (q := 347) (dc dl_3 14 rfl) rfl ?_
  refine l_iadd (q := 348) (dc dl_3 15 rfl) rfl ?_
  refine l_sld (q := 349) (dc dl_3 16 rfl) rfl (by omega) (by omega) ?_
  refine l_aload (q := 350) (dc dl_3 17 rfl) rfl rfl 0 rfl ?_
  refine l_iload (q := 351) (dc dl_3 18 rfl) rfl rfl 3 rfl ?_
  refine l_iconst (q := 352) (dc dl_3 19 rfl) rfl ?_
  refine l_iadd (q := 353) (dc dl_3 20 rfl) rfl ?_
  refine l_sld (q := 354) (dc dl_3 21 rfl) rfl (by omega) (by omega) ?_
  refine l_aload (q := 355) (dc dl_3 22 rfl) rfl rfl 0 rfl ?_
  refine l_iload (q := 356) (dc dl_3 23 rfl) rfl rfl 3 rfl ?_
  refine l_iconst (q := 357) (dc dl_3 24 rfl) rfl ?_
  refine l_iadd (q := 358) (dc dl_3 25 rfl) rfl ?_
  refine l_sld (q := 359) (dc dl_3 26 rfl) rfl (by omega) (by omega) ?_
  refine l_call (q := 362) [I (xs (i + 1).toNat).toInt, I (xs (i + 2).toNat).toInt, I (xs (i + 3).toNat).toInt] mk_JS_stretch lm_LW_28 ⟨Nat.le_of_ble_eq_true rfl, Nat.le_of_ble_eq_true rfl⟩ rfl (dc dl_3 27 rfl) rfl ly0 rfl rfl (Nat.le_of_ble_eq_true rfl) hs (fun r1 σ1 _ hs => ?_)
  refine l_aload (q := 363) (dc dl_3 28 rfl) rfl rfl 2 rfl ?_
  refine l_aload (q := 364) (dc dl_3 29 rfl) rfl rfl 0 rfl ?_
  refine l_iload (q := 365) (dc dl_3 30 rfl) rfl rfl 3 rfl ?_
  refine l_iconst (q := 366) (dc dl_3 31 rfl) rfl ?_
  refine l_iadd (q := 367) (dc dl_3 32 rfl) rfl ?_
  refine l_sld (q := 368) (dc dl_3 33 rfl) rfl (by omega) (by omega) ?_
  refine l_aload (q := 369) (dc dl_3 34 rfl) rfl rfl 0 rfl ?_
  refine l_iload (q := 370) (dc dl_3 35 rfl) rfl rfl 3 rfl ?_
  refine l_iconst (q := 371) (dc dl_3 36 rfl) rfl ?_
  refine l_iadd (q := 372) (dc dl_3 37 rfl) rfl ?_
  refine l_sld (q := 373) (dc dl_3 38 rfl) rfl (by omega) (by omega) ?_
  refine l_aload (q := 374) (dc dl_3 39 rfl) rfl rfl 0 rfl ?_
  refine l_iload (q := 375) (dc dl_3 40 rfl) rfl rfl 3 rfl ?_
  refine l_iconst (q := 376) (dc dl_3 41 rfl) rfl ?_
  refine l_iadd (q := 377) (dc dl_3 42 rfl) rfl ?_
  refine l_sld (q := 378) (dc dl_3 43 rfl) rfl (by omega) (by omega) ?_
  refine l_call (q := 381) [I (xs (i + 1).toNat).toInt, I (xs (i + 2).toNat).toInt, I (xs (i + 3).toNat).toInt] mk_MO_stretch lm_LW_32 ⟨Nat.le_of_ble_eq_true rfl, Nat.le_of_ble_eq_true rfl⟩ rfl (dc dl_3 44 rfl) rfl ly8 rfl rfl (Nat.le_of_ble_eq_true rfl) hs (fun r2 σ2 _ hs => ?_)
  obtain ⟨rfl, hI⟩ := hs
  refine l_same (t := 1146) (dc dl_3 45 rfl) (by decide) ?_
  exact hL _ hI
theorem lc_4 {G : GT} {b Ln : Nat} {xs : Nat → Int32} {σ : St} {Inv : St → Prop} {i : Int} (hi : 0 ≤ i ∧ i + 7 ≤ Ln) (hLn : Ln ≤ 3584)
    (hs : CJ G m_JS_point [O 0, I (xs (i + 1).toNat).toInt, I (xs (i + 2).toNat).toInt] σ (fun r1 σ1 => CJ G m_MO_point [O 8, I (xs (i + 1).toNat).toInt, I (xs (i + 2).toNat).toInt] σ1 (fun r2 σ2 => r1 = r2 ∧ Inv σ2)))
    (hL : ∀ σ2, Inv σ2 → AL G b Ln xs 1146 [(0, .ref b), (1, .ref (aG G 0)), (2, .ref (aG G 8)), (3, .int (Int32.ofInt i))] [] σ2) : AL G b Ln xs 386 [(0, .ref b), (1, .ref (aG G 0)), (2, .ref (aG G 8)), (3, .int (Int32.ofInt i))] [] σ := by
  refine l_aload (q := 387) (dc dl_3 48 rfl) rfl rfl 1 rfl ?_
  refine l_aload (q := 388) (dc dl_3 49 rfl) rfl rfl 0 rfl ?_
  refine l_iload (q := 389) (dc dl_4 0 rfl) rfl rfl 3 rfl ?_
  refine l_iconst (q := 390) (dc dl_4 1 rfl) rfl ?_
  refine l_iadd (q := 391) (dc dl_4 2 rfl) rfl ?_
  refine l_sld (q := 392) (dc dl_4 3 rfl) rfl (by omega) (by omega) ?_
  refine l_aload (q := 393) (dc dl_4 4 rfl) rfl rfl 0 rfl ?_
  refine l_iload (q := 394) (dc dl_4 5 rfl) rfl rfl 3 rfl ?_
  refine l_iconst (q := 395) (dc dl_4 6 rfl) rfl ?_
  refine l_iadd (q := 396) (dc dl_4 7 rfl) rfl ?_
  refine l_sld (q := 397) (dc dl_4 8 rfl) rfl (by omega) (by omega) ?_
  refine l_call (q := 400) [I (xs (i + 1).toNat).toInt, I (xs (i + 2).toNat).toInt] mk_JS_point lm_LW_33 ⟨Nat.le_of_ble_eq_true rfl, Nat.le_of_ble_eq_true rfl⟩ rfl (dc dl_4 9 rfl) rfl ly0 rfl rfl (Nat.le_of_ble_eq_true rfl) hs (fun r1 σ1 _ hs => ?_)
  refine l_aload (q := 401) (dc dl_4 10 rfl) rfl rfl 2 rfl ?_
  refine l_aload (q := 402) (dc dl_4 11 rfl) rfl rfl 0 rfl ?_
  refine l_iload (q := 403) (dc dl_4 12 rfl) rfl rfl 3 rfl ?_
  refine l_iconst (q := 404) (dc dl_4 13 rfl) rfl ?_
  refine l_iadd (q := 405) (dc dl_4 14 rfl) rfl ?_
  refine l_sld (q := 406) (dc dl_4 15 rfl) rfl (by omega) (by omega) ?_
  refine l_aload (q := 407) (dc dl_4 16 rfl) rfl rfl 0 rfl ?_
  refine l_iload (q := 408) (dc dl_4 17 rfl) rfl rfl 3 rfl ?_
  refine l_iconst (q := 409) (dc dl_4 18 rfl) rfl ?_
  refine l_iadd (q := 410) (dc dl_4 19 rfl) rfl ?_
  refine l_sld (q := 411) (dc dl_4 20 rfl) rfl (by omega) (by omega) ?_
  refine l_call (q := 414) [I (xs (i + 1).toNat).toInt, I (xs (i + 2).toNat).toInt] mk_MO_point lm_LW_37 ⟨Nat.le_of_ble_eq_true rfl, Nat.le_of_ble_eq_true rfl⟩ rfl (dc dl_4 21 rfl) rfl ly8 rfl rfl (Nat.le_of_ble_eq_true rfl) hs (fun r2 σ2 _ hs => ?_)
  obtain ⟨rfl, hI⟩ := hs
  refine l_same (t := 1146) (dc dl_4 22 rfl) (by decide) ?_
  exact hL _ hI
theorem lc_5 {G : GT} {b Ln : Nat} {xs : Nat → Int32} {σ : St} {Inv : St → Prop} {i : Int} (hi : 0 ≤ i ∧ i + 7 ≤ Ln) (hLn : Ln ≤ 3584)
    (hs : CJ G m_JS_bar [O 0, I (xs (i + 1).toNat).toInt, I (if (xs (i + 2).toNat).toInt = 0 then 0 else 1)] σ (fun r1 σ1 => CJ G m_MO_bar [O 8, I (xs (i + 1).toNat).toInt, I (if (xs (i + 2).toNat).toInt = 0 then 0 else 1)] σ1 (fun r2 σ2 => r1 = r2 ∧ Inv σ2)))
    (hL : ∀ σ2, Inv σ2 → AL G b Ln xs 1146 [(0, .ref b), (1, .ref (aG G 0)), (2, .ref (aG G 8)), (3, .int (Int32.ofInt i))] [] σ2) : AL G b Ln xs 419 [(0, .ref b), (1, .ref (aG G 0)), (2, .ref (aG G 8)), (3, .int (Int32.ofInt i))] [] σ := by
  by_cases hz : (xs (i + 2).toNat).toInt = 0
  · simp only [if_pos hz] at hs
    refine l_aload (q := 420) (dc dl_4 25 rfl) rfl rfl 1 rfl ?_
    refine l_aload (q := 421) (dc dl_4 26 rfl) rfl rfl 0 rfl ?_
    refine l_iload (q := 422) (dc dl_4 27 rfl) rfl rfl 3 rfl ?_
    refine l_iconst (q := 423) (dc dl_4 28 rfl) rfl ?_
    refine l_iadd (q := 424) (dc dl_4 29 rfl) rfl ?_
    refine l_sld (q := 425) (dc dl_4 30 rfl) rfl (by omega) (by omega) ?_
    refine l_aload (q := 426) (dc dl_4 31 rfl) rfl rfl 0 rfl ?_
    refine l_iload (q := 427) (dc dl_4 32 rfl) rfl rfl 3 rfl ?_
    refine l_iconst (q := 428) (dc dl_4 33 rfl) rfl ?_
    refine l_iadd (q := 429) (dc dl_4 34 rfl) rfl ?_
    refine l_sld (q := 430) (dc dl_4 35 rfl) rfl (by omega) (by omega) ?_
    refine l_eqT (t := 437) (dc dl_4 36 rfl) (by decide) (by rw [hz]; rfl) ?_
    refine l_iconst (q := 438) (dc dl_4 39 rfl) rfl ?_
    refine l_call (q := 441) [I (xs (i + 1).toNat).toInt, I (0)] mk_JS_bar lm_LW_38 ⟨Nat.le_of_ble_eq_true rfl, Nat.le_of_ble_eq_true rfl⟩ rfl (dc dl_4 40 rfl) rfl ly0 rfl rfl (Nat.le_of_ble_eq_true rfl) hs (fun r1 σ1 _ hs => ?_)
    refine l_aload (q := 442) (dc dl_4 41 rfl) rfl rfl 2 rfl ?_
    refine l_aload (q := 443) (dc dl_4 42 rfl) rfl rfl 0 rfl ?_
    refine l_iload (q := 444) (dc dl_4 43 rfl) rfl rfl 3 rfl ?_
    refine l_iconst (q := 445) (dc dl_4 44 rfl) rfl ?_
    refine l_iadd (q := 446) (dc dl_4 45 rfl) rfl ?_
    refine l_sld (q := 447) (dc dl_4 46 rfl) rfl (by omega) (by omega) ?_
    refine l_aload (q := 448) (dc dl_4 47 rfl) rfl rfl 0 rfl ?_
    refine l_iload (q := 449) (dc dl_4 48 rfl) rfl rfl 3 rfl ?_
    refine l_iconst (q := 450) (dc dl_4 49 rfl) rfl ?_
    refine l_iadd (q := 451) (dc dl_5 0 rfl) rfl ?_
    refine l_sld (q := 452) (dc dl_5 1 rfl) rfl (by omega) (by omega) ?_
    refine l_eqT (t := 459) (dc dl_5 2 rfl) (by decide) (by rw [hz]; rfl) ?_
    refine l_iconst (q := 460) (dc dl_5 5 rfl) rfl ?_
    refine l_call (q := 463) [I (xs (i + 1).toNat).toInt, I (0)] mk_MO_bar lm_LW_42 ⟨Nat.le_of_ble_eq_true rfl, Nat.le_of_ble_eq_true rfl⟩ rfl (dc dl_5 6 rfl) rfl ly8 rfl rfl (Nat.le_of_ble_eq_true rfl) hs (fun r2 σ2 _ hs => ?_)
    obtain ⟨rfl, hI⟩ := hs
    refine l_same (t := 1146) (dc dl_5 7 rfl) (by decide) ?_
    exact hL _ hI
  · simp only [if_neg hz] at hs
    refine l_aload (q := 420) (dc dl_4 25 rfl) rfl rfl 1 rfl ?_
    refine l_aload (q := 421) (dc dl_4 26 rfl) rfl rfl 0 rfl ?_
    refine l_iload (q := 422) (dc dl_4 27 rfl) rfl rfl 3 rfl ?_
    refine l_iconst (q := 423) (dc dl_4 28 rfl) rfl ?_
    refine l_iadd (q := 424) (dc dl_4 29 rfl) rfl ?_
    refine l_sld (q := 425) (dc dl_4 30 rfl) rfl (by omega) (by omega) ?_
    refine l_aload (q := 426) (dc dl_4 31 rfl) rfl rfl 0 rfl ?_
    refine l_iload (q := 427) (dc dl_4 32 rfl) rfl rfl 3 rfl ?_
    refine l_iconst (q := 428) (dc dl_4 33 rfl) rfl ?_
    refine l_iadd (q := 429) (dc dl_4 34 rfl) rfl ?_
    refine l_sld (q := 430) (dc dl_4 35 rfl) rfl (by omega) (by omega) ?_
    refine l_eqF (q := 433) (t := 437) (dc dl_4 36 rfl) rfl (by decide) (fun z => hz (by have z : Int32.ofInt _ = Int32.ofInt 0 := z; exact (oi_eq (rng_toInt _) ⟨by decide, by decide⟩).mp z)) ?_
    refine l_iconst (q := 434) (dc dl_4 37 rfl) rfl ?_
    refine l_goto (q := 438) (dc dl_4 38 rfl) (by decide) ?_
    refine l_call (q := 441) [I (xs (i + 1).toNat).toInt, I (1)] mk_JS_bar lm_LW_38 ⟨Nat.le_of_ble_eq_true rfl, Nat.le_of_ble_eq_true rfl⟩ rfl (dc dl_4 40 rfl) rfl ly0 rfl rfl (Nat.le_of_ble_eq_true rfl) hs (fun r1 σ1 _ hs => ?_)
    refine l_aload (q := 442) (dc dl_4 41 rfl) rfl rfl 2 rfl ?_
    refine l_aload (q := 443) (dc dl_4 42 rfl) rfl rfl 0 rfl ?_
    refine l_iload (q := 444) (dc dl_4 43 rfl) rfl rfl 3 rfl ?_
    refine l_iconst (q := 445) (dc dl_4 44 rfl) rfl ?_
    refine l_iadd (q := 446) (dc dl_4 45 rfl) rfl ?_
    refine l_sld (q := 447) (dc dl_4 46 rfl) rfl (by omega) (by omega) ?_
    refine l_aload (q := 448) (dc dl_4 47 rfl) rfl rfl 0 rfl ?_
    refine l_iload (q := 449) (dc dl_4 48 rfl) rfl rfl 3 rfl ?_
    refine l_iconst (q := 450) (dc dl_4 49 rfl) rfl ?_
    refine l_iadd (q := 451) (dc dl_5 0 rfl) rfl ?_
    refine l_sld (q := 452) (dc dl_5 1 rfl) rfl (by omega) (by omega) ?_
    refine l_eqF (q := 455) (t := 459) (dc dl_5 2 rfl) rfl (by decide) (fun z => hz (by have z : Int32.ofInt _ = Int32.ofInt 0 := z; exact (oi_eq (rng_toInt _) ⟨by decide, by decide⟩).mp z)) ?_
    refine l_iconst (q := 456) (dc dl_5 3 rfl) rfl ?_
    refine l_goto (q := 460) (dc dl_5 4 rfl) (by decide) ?_
    refine l_call (q := 463) [I (xs (i + 1).toNat).toInt, I (1)] mk_MO_bar lm_LW_42 ⟨Nat.le_of_ble_eq_true rfl, Nat.le_of_ble_eq_true rfl⟩ rfl (dc dl_5 6 rfl) rfl ly8 rfl rfl (Nat.le_of_ble_eq_true rfl) hs (fun r2 σ2 _ hs => ?_)
    obtain ⟨rfl, hI⟩ := hs
    refine l_same (t := 1146) (dc dl_5 7 rfl) (by decide) ?_
    exact hL _ hI
theorem lc_6 {G : GT} {b Ln : Nat} {xs : Nat → Int32} {σ : St} {Inv : St → Prop} {i : Int} (hi : 0 ≤ i ∧ i + 7 ≤ Ln) (hLn : Ln ≤ 3584)
    (hs : CJ G m_JS_about [O 0, I (xs (i + 1).toNat).toInt, I (xs (i + 2).toNat).toInt] σ (fun r1 σ1 => CJ G m_MO_about [O 8, I (xs (i + 1).toNat).toInt, I (xs (i + 2).toNat).toInt] σ1 (fun r2 σ2 => r1 = r2 ∧ Inv σ2)))
    (hL : ∀ σ2, Inv σ2 → AL G b Ln xs 1146 [(0, .ref b), (1, .ref (aG G 0)), (2, .ref (aG G 8)), (3, .int (Int32.ofInt i))] [] σ2) : AL G b Ln xs 468 [(0, .ref b), (1, .ref (aG G 0)), (2, .ref (aG G 8)), (3, .int (Int32.ofInt i))] [] σ := by
  refine l_aload (q := 469) (dc dl_5 10 rfl) rfl rfl 1 rfl ?_
  refine l_aload (q := 470) (dc dl_5 11 rfl) rfl rfl 0 rfl ?_
  refine l_iload (q := 471) (dc dl_5 12 rfl) rfl rfl 3 rfl ?_
  refine l_iconst (q := 472) (dc dl_5 13 rfl) rfl ?_
  refine l_iadd (q := 473) (dc dl_5 14 rfl) rfl ?_
  refine l_sld (q := 474) (dc dl_5 15 rfl) rfl (by omega) (by omega) ?_
  refine l_aload (q := 475) (dc dl_5 16 rfl) rfl rfl 0 rfl ?_
  refine l_iload (q := 476) (dc dl_5 17 rfl) rfl rfl 3 rfl ?_
  refine l_iconst (q := 477) (dc dl_5 18 rfl) rfl ?_
  refine l_iadd (q := 478) (dc dl_5 19 rfl) rfl ?_
  refine l_sld (q := 479) (dc dl_5 20 rfl) rfl (by omega) (by omega) ?_
  refine l_call (q := 482) [I (xs (i + 1).toNat).toInt, I (xs (i + 2).toNat).toInt] mk_JS_about lm_LW_43 ⟨Nat.le_of_ble_eq_true rfl, Nat.le_of_ble_eq_true rfl⟩ rfl (dc dl_5 21 rfl) rfl ly0 rfl rfl (Nat.le_of_ble_eq_true rfl) hs (fun r1 σ1 _ hs => ?_)
  refine l_aload (q := 483) (dc dl_5 22 rfl) rfl rfl 2 rfl ?_
  refine l_aload (q := 484) (dc dl_5 23 rfl) rfl rfl 0 rfl ?_
  refine l_iload (q := 485) (dc dl_5 24 rfl) rfl rfl 3 rfl ?_
  refine l_iconst (q := 486) (dc dl_5 25 rfl) rfl ?_
  refine l_iadd (q := 487) (dc dl_5 26 rfl) rfl ?_
  refine l_sld (q := 488) (dc dl_5 27 rfl) rfl (by omega) (by omega) ?_
  refine l_aload (q := 489) (dc dl_5 28 rfl) rfl rfl 0 rfl ?_
  refine l_iload (q := 490) (dc dl_5 29 rfl) rfl rfl 3 rfl ?_
  refine l_iconst (q := 491) (dc dl_5 30 rfl) rfl ?_
  refine l_iadd (q := 492) (dc dl_5 31 rfl) rfl ?_
  refine l_sld (q := 493) (dc dl_5 32 rfl) rfl (by omega) (by omega) ?_
  refine l_call (q := 496) [I (xs (i + 1).toNat).toInt, I (xs (i + 2).toNat).toInt] mk_MO_about lm_LW_46 ⟨Nat.le_of_ble_eq_true rfl, Nat.le_of_ble_eq_true rfl⟩ rfl (dc dl_5 33 rfl) rfl ly8 rfl rfl (Nat.le_of_ble_eq_true rfl) hs (fun r2 σ2 _ hs => ?_)
  obtain ⟨rfl, hI⟩ := hs
  refine l_same (t := 1146) (dc dl_5 34 rfl) (by decide) ?_
  exact hL _ hI
theorem lc_7 {G : GT} {b Ln : Nat} {xs : Nat → Int32} {σ : St} {Inv : St → Prop} {i : Int} (hi : 0 ≤ i ∧ i + 7 ≤ Ln) (hLn : Ln ≤ 3584)
    (hs : CJ G m_JS_type [O 0, I (xs (i + 1).toNat).toInt] σ (fun r1 σ1 => CJ G m_MO_type [O 8, I (xs (i + 1).toNat).toInt] σ1 (fun r2 σ2 => r1 = r2 ∧ Inv σ2)))
    (hL : ∀ σ2, Inv σ2 → AL G b Ln xs 1146 [(0, .ref b), (1, .ref (aG G 0)), (2, .ref (aG G 8)), (3, .int (Int32.ofInt i))] [] σ2) : AL G b Ln xs 501 [(0, .ref b), (1, .ref (aG G 0)), (2, .ref (aG G 8)), (3, .int (Int32.ofInt i))] [] σ := by
  refine l_aload (q := 502) (dc dl_5 37 rfl) rfl rfl 1 rfl ?_
  refine l_aload (q := 503) (dc dl_5 38 rfl) rfl rfl 0 rfl ?_
  refine l_iload (q := 504) (dc dl_5 39 rfl) rfl rfl 3 rfl ?_
  refine l_iconst (q := 505) (dc dl_5 40 rfl) rfl ?_
  refine l_iadd (q := 506) (dc dl_5 41 rfl) rfl ?_
  refine l_sld (q := 507) (dc dl_5 42 rfl) rfl (by omega) (by omega) ?_
  refine l_call (q := 510) [I (xs (i + 1).toNat).toInt] mk_JS_type lm_LW_47 ⟨Nat.le_of_ble_eq_true rfl, Nat.le_of_ble_eq_true rfl⟩ rfl (dc dl_5 43 rfl) rfl ly0 rfl rfl (Nat.le_of_ble_eq_true rfl) hs (fun r1 σ1 _ hs => ?_)
  refine l_aload (q := 511) (dc dl_5 44 rfl) rfl rfl 2 rfl ?_
  refine l_aload (q := 512) (dc dl_5 45 rfl) rfl rfl 0 rfl ?_
  refine l_iload (q := 513) (dc dl_5 46 rfl) rfl rfl 3 rfl ?_
  refine l_iconst (q := 514) (dc dl_5 47 rfl) rfl ?_
  refine l_iadd (q := 515) (dc dl_5 48 rfl) rfl ?_
  refine l_sld (q := 516) (dc dl_5 49 rfl) rfl (by omega) (by omega) ?_
  refine l_call (q := 519) [I (xs (i + 1).toNat).toInt] mk_MO_type lm_LW_50 ⟨Nat.le_of_ble_eq_true rfl, Nat.le_of_ble_eq_true rfl⟩ rfl (dc dl_6 0 rfl) rfl ly8 rfl rfl (Nat.le_of_ble_eq_true rfl) hs (fun r2 σ2 _ hs => ?_)
  obtain ⟨rfl, hI⟩ := hs
  refine l_same (t := 1146) (dc dl_6 1 rfl) (by decide) ?_
  exact hL _ hI
theorem lc_8 {G : GT} {b Ln : Nat} {xs : Nat → Int32} {σ : St} {Inv : St → Prop} {i : Int} (hi : 0 ≤ i ∧ i + 7 ≤ Ln) (hLn : Ln ≤ 3584)
    (hs : CJ G m_JS_insert [O 0, I (xs (i + 1).toNat).toInt, I (xs (i + 2).toNat).toInt] σ (fun r1 σ1 => CJ G m_MO_insert [O 8, I (xs (i + 1).toNat).toInt, I (xs (i + 2).toNat).toInt] σ1 (fun r2 σ2 => r1 = r2 ∧ Inv σ2)))
    (hL : ∀ σ2, Inv σ2 → AL G b Ln xs 1146 [(0, .ref b), (1, .ref (aG G 0)), (2, .ref (aG G 8)), (3, .int (Int32.ofInt i))] [] σ2) : AL G b Ln xs 524 [(0, .ref b), (1, .ref (aG G 0)), (2, .ref (aG G 8)), (3, .int (Int32.ofInt i))] [] σ := by
  refine l_aload (q := 525) (dc dl_6 4 rfl) rfl rfl 1 rfl ?_
  refine l_aload (q := 526) (dc dl_6 5 rfl) rfl rfl 0 rfl ?_
  refine l_iload (q := 527) (dc dl_6 6 rfl) rfl rfl 3 rfl ?_
  refine l_iconst (q := 528) (dc dl_6 7 rfl) rfl ?_
  refine l_iadd (q := 529) (dc dl_6 8 rfl) rfl ?_
  refine l_sld (q := 530) (dc dl_6 9 rfl) rfl (by omega) (by omega) ?_
  refine l_aload (q := 531) (dc dl_6 10 rfl) rfl rfl 0 rfl ?_
  refine l_iload (q := 532) (dc dl_6 11 rfl) rfl rfl 3 rfl ?_
  refine l_iconst (q := 533) (dc dl_6 12 rfl) rfl ?_
  refine l_iadd (q := 534) (dc dl_6 13 rfl) rfl ?_
  refine l_sld (q := 535) (dc dl_6 14 rfl) rfl (by omega) (by omega) ?_
  refine l_call (q := 538) [I (xs (i + 1).toNat).toInt, I (xs (i + 2).toNat).toInt] mk_JS_insert lm_LW_51 ⟨Nat.le_of_ble_eq_true rfl, Nat.le_of_ble_eq_true rfl⟩ rfl (dc dl_6 15 rfl) rfl ly0 rfl rfl (Nat.le_of_ble_eq_true rfl) hs (fun r1 σ1 _ hs => ?_)
  refine l_aload (q := 539) (dc dl_6 16 rfl) rfl rfl 2 rfl ?_
  refine l_aload (q := 540) (dc dl_6 17 rfl) rfl rfl 0 rfl ?_
  refine l_iload (q := 541) (dc dl_6 18 rfl) rfl rfl 3 rfl ?_
  refine l_iconst (q := 542) (dc dl_6 19 rfl) rfl ?_
  refine l_iadd (q := 543) (dc dl_6 20 rfl) rfl ?_
  refine l_sld (q := 544) (dc dl_6 21 rfl) rfl (by omega) (by omega) ?_
  refine l_aload (q := 545) (dc dl_6 22 rfl) rfl rfl 0 rfl ?_
  refine l_iload (q := 546) (dc dl_6 23 rfl) rfl rfl 3 rfl ?_
  refine l_iconst (q := 547) (dc dl_6 24 rfl) rfl ?_
  refine l_iadd (q := 548) (dc dl_6 25 rfl) rfl ?_
  refine l_sld (q := 549) (dc dl_6 26 rfl) rfl (by omega) (by omega) ?_
  refine l_call (q := 552) [I (xs (i + 1).toNat).toInt, I (xs (i + 2).toNat).toInt] mk_MO_insert lm_LW_54 ⟨Nat.le_of_ble_eq_true rfl, Nat.le_of_ble_eq_true rfl⟩ rfl (dc dl_6 27 rfl) rfl ly8 rfl rfl (Nat.le_of_ble_eq_true rfl) hs (fun r2 σ2 _ hs => ?_)
  obtain ⟨rfl, hI⟩ := hs
  refine l_same (t := 1146) (dc dl_6 28 rfl) (by decide) ?_
  exact hL _ hI
theorem lc_9 {G : GT} {b Ln : Nat} {xs : Nat → Int32} {σ : St} {Inv : St → Prop} {i : Int} (hi : 0 ≤ i ∧ i + 7 ≤ Ln) (hLn : Ln ≤ 3584)
    (hs : CJ G m_JS_remove [O 0, I (xs (i + 1).toNat).toInt] σ (fun r1 σ1 => CJ G m_MO_remove [O 8, I (xs (i + 1).toNat).toInt] σ1 (fun r2 σ2 => r1 = r2 ∧ Inv σ2)))
    (hL : ∀ σ2, Inv σ2 → AL G b Ln xs 1146 [(0, .ref b), (1, .ref (aG G 0)), (2, .ref (aG G 8)), (3, .int (Int32.ofInt i))] [] σ2) : AL G b Ln xs 557 [(0, .ref b), (1, .ref (aG G 0)), (2, .ref (aG G 8)), (3, .int (Int32.ofInt i))] [] σ := by
  refine l_aload (q := 558) (dc dl_6 31 rfl) rfl rfl 1 rfl ?_
  refine l_aload (q := 559) (dc dl_6 32 rfl) rfl rfl 0 rfl ?_
  refine l_iload (q := 560) (dc dl_6 33 rfl) rfl rfl 3 rfl ?_
  refine l_iconst (q := 561) (dc dl_6 34 rfl) rfl ?_
  refine l_iadd (q := 562) (dc dl_6 35 rfl) rfl ?_
  refine l_sld (q := 563) (dc dl_6 36 rfl) rfl (by omega) (by omega) ?_
  refine l_call (q := 566) [I (xs (i + 1).toNat).toInt] mk_JS_remove lm_LW_55 ⟨Nat.le_of_ble_eq_true rfl, Nat.le_of_ble_eq_true rfl⟩ rfl (dc dl_6 37 rfl) rfl ly0 rfl rfl (Nat.le_of_ble_eq_true rfl) hs (fun r1 σ1 _ hs => ?_)
  refine l_aload (q := 567) (dc dl_6 38 rfl) rfl rfl 2 rfl ?_
  refine l_aload (q := 568) (dc dl_6 39 rfl) rfl rfl 0 rfl ?_
  refine l_iload (q := 569) (dc dl_6 40 rfl) rfl rfl 3 rfl ?_
  refine l_iconst (q := 570) (dc dl_6 41 rfl) rfl ?_
  refine l_iadd (q := 571) (dc dl_6 42 rfl) rfl ?_
  refine l_sld (q := 572) (dc dl_6 43 rfl) rfl (by omega) (by omega) ?_
  refine l_call (q := 575) [I (xs (i + 1).toNat).toInt] mk_MO_remove lm_LW_58 ⟨Nat.le_of_ble_eq_true rfl, Nat.le_of_ble_eq_true rfl⟩ rfl (dc dl_6 44 rfl) rfl ly8 rfl rfl (Nat.le_of_ble_eq_true rfl) hs (fun r2 σ2 _ hs => ?_)
  obtain ⟨rfl, hI⟩ := hs
  refine l_same (t := 1146) (dc dl_6 45 rfl) (by decide) ?_
  exact hL _ hI
theorem lc_10 {G : GT} {b Ln : Nat} {xs : Nat → Int32} {σ : St} {Inv : St → Prop} {i : Int} (hi : 0 ≤ i ∧ i + 7 ≤ Ln) (hLn : Ln ≤ 3584)
    (hs : CJ G m_JS_undo [O 0] σ (fun r1 σ1 => CJ G m_MO_undo [O 8] σ1 (fun r2 σ2 => r1 = r2 ∧ Inv σ2)))
    (hL : ∀ σ2, Inv σ2 → AL G b Ln xs 1146 [(0, .ref b), (1, .ref (aG G 0)), (2, .ref (aG G 8)), (3, .int (Int32.ofInt i))] [] σ2) : AL G b Ln xs 580 [(0, .ref b), (1, .ref (aG G 0)), (2, .ref (aG G 8)), (3, .int (Int32.ofInt i))] [] σ := by
  refine l_aload (q := 581) (dc dl_6 48 rfl) rfl rfl 1 rfl ?_
  refine l_call (q := 584) [] mk_JS_undo lm_LW_59 ⟨Nat.le_of_ble_eq_true rfl, Nat.le_of_ble_eq_true rfl⟩ rfl (dc dl_6 49 rfl) rfl ly0 rfl rfl (Nat.le_of_ble_eq_true rfl) hs (fun r1 σ1 _ hs => ?_)
  refine l_aload (q := 585) (dc dl_7 0 rfl) rfl rfl 2 rfl ?_
  refine l_call (q := 588) [] mk_MO_undo lm_LW_63 ⟨Nat.le_of_ble_eq_true rfl, Nat.le_of_ble_eq_true rfl⟩ rfl (dc dl_7 1 rfl) rfl ly8 rfl rfl (Nat.le_of_ble_eq_true rfl) hs (fun r2 σ2 _ hs => ?_)
  obtain ⟨rfl, hI⟩ := hs
  refine l_same (t := 1146) (dc dl_7 2 rfl) (by decide) ?_
  exact hL _ hI
theorem lc_11 {G : GT} {b Ln : Nat} {xs : Nat → Int32} {σ : St} {Inv : St → Prop} {i : Int} (hi : 0 ≤ i ∧ i + 7 ≤ Ln) (hLn : Ln ≤ 3584)
    (hs : CJ G m_JS_text [O 0, I (xs (i + 1).toNat).toInt] σ (fun r1 σ1 => CJ G m_MO_text [O 8, I (xs (i + 1).toNat).toInt] σ1 (fun r2 σ2 => r1 = r2 ∧ Inv σ2)))
    (hL : ∀ σ2, Inv σ2 → AL G b Ln xs 1146 [(0, .ref b), (1, .ref (aG G 0)), (2, .ref (aG G 8)), (3, .int (Int32.ofInt i))] [] σ2) : AL G b Ln xs 593 [(0, .ref b), (1, .ref (aG G 0)), (2, .ref (aG G 8)), (3, .int (Int32.ofInt i))] [] σ := by
  refine l_aload (q := 594) (dc dl_7 5 rfl) rfl rfl 1 rfl ?_
  refine l_aload (q := 595) (dc dl_7 6 rfl) rfl rfl 0 rfl ?_
  refine l_iload (q := 596) (dc dl_7 7 rfl) rfl rfl 3 rfl ?_
  refine l_iconst (q := 597) (dc dl_7 8 rfl) rfl ?_
  refine l_iadd (q := 598) (dc dl_7 9 rfl) rfl ?_
  refine l_sld (q := 599) (dc dl_7 10 rfl) rfl (by omega) (by omega) ?_
  refine l_call (q := 602) [I (xs (i + 1).toNat).toInt] mk_JS_text lm_LW_64 ⟨Nat.le_of_ble_eq_true rfl, Nat.le_of_ble_eq_true rfl⟩ rfl (dc dl_7 11 rfl) rfl ly0 rfl rfl (Nat.le_of_ble_eq_true rfl) hs (fun r1 σ1 _ hs => ?_)
  refine l_aload (q := 603) (dc dl_7 12 rfl) rfl rfl 2 rfl ?_
  refine l_aload (q := 604) (dc dl_7 13 rfl) rfl rfl 0 rfl ?_
  refine l_iload (q := 605) (dc dl_7 14 rfl) rfl rfl 3 rfl ?_
  refine l_iconst (q := 606) (dc dl_7 15 rfl) rfl ?_
  refine l_iadd (q := 607) (dc dl_7 16 rfl) rfl ?_
  refine l_sld (q := 608) (dc dl_7 17 rfl) rfl (by omega) (by omega) ?_
  refine l_call (q := 611) [I (xs (i + 1).toNat).toInt] mk_MO_text lm_LW_67 ⟨Nat.le_of_ble_eq_true rfl, Nat.le_of_ble_eq_true rfl⟩ rfl (dc dl_7 18 rfl) rfl ly8 rfl rfl (Nat.le_of_ble_eq_true rfl) hs (fun r2 σ2 _ hs => ?_)
  obtain ⟨rfl, hI⟩ := hs
  refine l_same (t := 1146) (dc dl_7 19 rfl) (by decide) ?_
  exact hL _ hI
theorem lc_12 {G : GT} {b Ln : Nat} {xs : Nat → Int32} {σ : St} {Inv : St → Prop} {i : Int} (hi : 0 ≤ i ∧ i + 7 ≤ Ln) (hLn : Ln ≤ 3584)
    (hs : CJ G m_JS_shape [O 0, I (xs (i + 1).toNat).toInt, I (xs (i + 2).toNat).toInt] σ (fun r1 σ1 => CJ G m_MO_shape [O 8, I (xs (i + 1).toNat).toInt, I (xs (i + 2).toNat).toInt] σ1 (fun r2 σ2 => r1 = r2 ∧ Inv σ2)))
    (hL : ∀ σ2, Inv σ2 → AL G b Ln xs 1146 [(0, .ref b), (1, .ref (aG G 0)), (2, .ref (aG G 8)), (3, .int (Int32.ofInt i))] [] σ2) : AL G b Ln xs 616 [(0, .ref b), (1, .ref (aG G 0)), (2, .ref (aG G 8)), (3, .int (Int32.ofInt i))] [] σ := by
  refine l_aload (q := 617) (dc dl_7 22 rfl) rfl rfl 1 rfl ?_
  refine l_aload (q := 618) (dc dl_7 23 rfl) rfl rfl 0 rfl ?_
  refine l_iload (q := 619) (dc dl_7 24 rfl) rfl rfl 3 rfl ?_
  refine l_iconst (q := 620) (dc dl_7 25 rfl) rfl ?_
  refine l_iadd (q := 621) (dc dl_7 26 rfl) rfl ?_
  refine l_sld (q := 622) (dc dl_7 27 rfl) rfl (by omega) (by omega) ?_
  refine l_aload (q := 623) (dc dl_7 28 rfl) rfl rfl 0 rfl ?_
  refine l_iload (q := 624) (dc dl_7 29 rfl) rfl rfl 3 rfl ?_
  refine l_iconst (q := 625) (dc dl_7 30 rfl) rfl ?_
  refine l_iadd (q := 626) (dc dl_7 31 rfl) rfl ?_
  refine l_sld (q := 627) (dc dl_7 32 rfl) rfl (by omega) (by omega) ?_
  refine l_call (q := 630) [I (xs (i + 1).toNat).toInt, I (xs (i + 2).toNat).toInt] mk_JS_shape lm_LW_68 ⟨Nat.le_of_ble_eq_true rfl, Nat.le_of_ble_eq_true rfl⟩ rfl (dc dl_7 33 rfl) rfl ly0 rfl rfl (Nat.le_of_ble_eq_true rfl) hs (fun r1 σ1 _ hs => ?_)
  refine l_aload (q := 631) (dc dl_7 34 rfl) rfl rfl 2 rfl ?_
  refine l_aload (q := 632) (dc dl_7 35 rfl) rfl rfl 0 rfl ?_
  refine l_iload (q := 633) (dc dl_7 36 rfl) rfl rfl 3 rfl ?_
  refine l_iconst (q := 634) (dc dl_7 37 rfl) rfl ?_
  refine l_iadd (q := 635) (dc dl_7 38 rfl) rfl ?_
  refine l_sld (q := 636) (dc dl_7 39 rfl) rfl (by omega) (by omega) ?_
  refine l_aload (q := 637) (dc dl_7 40 rfl) rfl rfl 0 rfl ?_
  refine l_iload (q := 638) (dc dl_7 41 rfl) rfl rfl 3 rfl ?_
  refine l_iconst (q := 639) (dc dl_7 42 rfl) rfl ?_
  refine l_iadd (q := 640) (dc dl_7 43 rfl) rfl ?_
  refine l_sld (q := 641) (dc dl_7 44 rfl) rfl (by omega) (by omega) ?_
  refine l_call (q := 644) [I (xs (i + 1).toNat).toInt, I (xs (i + 2).toNat).toInt] mk_MO_shape lm_LW_71 ⟨Nat.le_of_ble_eq_true rfl, Nat.le_of_ble_eq_true rfl⟩ rfl (dc dl_7 45 rfl) rfl ly8 rfl rfl (Nat.le_of_ble_eq_true rfl) hs (fun r2 σ2 _ hs => ?_)
  obtain ⟨rfl, hI⟩ := hs
  refine l_same (t := 1146) (dc dl_7 46 rfl) (by decide) ?_
  exact hL _ hI
theorem lc_13 {G : GT} {b Ln : Nat} {xs : Nat → Int32} {σ : St} {Inv : St → Prop} {i : Int} (hi : 0 ≤ i ∧ i + 7 ≤ Ln) (hLn : Ln ≤ 3584)
    (hs : CJ G m_JS_words [O 0] σ (fun r1 σ1 => CJ G m_MO_words [O 8] σ1 (fun r2 σ2 => r1 = r2 ∧ Inv σ2)))
    (hL : ∀ σ2, Inv σ2 → AL G b Ln xs 1146 [(0, .ref b), (1, .ref (aG G 0)), (2, .ref (aG G 8)), (3, .int (Int32.ofInt i))] [] σ2) : AL G b Ln xs 649 [(0, .ref b), (1, .ref (aG G 0)), (2, .ref (aG G 8)), (3, .int (Int32.ofInt i))] [] σ := by
  refine l_aload (q := 650) (dc dl_7 49 rfl) rfl rfl 1 rfl ?_
  refine l_call (q := 653) [] mk_JS_words lm_LW_72 ⟨Nat.le_of_ble_eq_true rfl, Nat.le_of_ble_eq_true rfl⟩ rfl (dc dl_8 0 rfl) rfl ly0 rfl rfl (Nat.le_of_ble_eq_true rfl) hs (fun r1 σ1 _ hs => ?_)
  refine l_aload (q := 654) (dc dl_8 1 rfl) rfl rfl 2 rfl ?_
  refine l_call (q := 657) [] mk_MO_words lm_LW_75 ⟨Nat.le_of_ble_eq_true rfl, Nat.le_of_ble_eq_true rfl⟩ rfl (dc dl_8 2 rfl) rfl ly8 rfl rfl (Nat.le_of_ble_eq_true rfl) hs (fun r2 σ2 _ hs => ?_)
  obtain ⟨rfl, hI⟩ := hs
  refine l_same (t := 1146) (dc dl_8 3 rfl) (by decide) ?_
  exact hL _ hI
theorem lc_14 {G : GT} {b Ln : Nat} {xs : Nat → Int32} {σ : St} {Inv : St → Prop} {i : Int} (hi : 0 ≤ i ∧ i + 7 ≤ Ln) (hLn : Ln ≤ 3584)
    (hs : CJ G m_JS_line [O 0, I (xs (i + 1).toNat).toInt, I (xs (i + 2).toNat).toInt, I (xs (i + 3).toNat).toInt] σ (fun r1 σ1 => CJ G m_MO_line [O 8, I (xs (i + 1).toNat).toInt, I (xs (i + 2).toNat).toInt, I (xs (i + 3).toNat).toInt] σ1 (fun r2 σ2 => r1 = r2 ∧ Inv σ2)))
    (hL : ∀ σ2, Inv σ2 → AL G b Ln xs 1146 [(0, .ref b), (1, .ref (aG G 0)), (2, .ref (aG G 8)), (3, .int (Int32.ofInt i))] [] σ2) : AL G b Ln xs 662 [(0, .ref b), (1, .ref (aG G 0)), (2, .ref (aG G 8)), (3, .int (Int32.ofInt i))] [] σ := by
  refine l_aload (q := 663) (dc dl_8 6 rfl) rfl rfl 1 rfl ?_
  refine l_aload (q := 664) (dc dl_8 7 rfl) rfl rfl 0 rfl ?_
  refine l_iload (q := 665) (dc dl_8 8 rfl) rfl rfl 3 rfl ?_
  refine l_iconst (q := 666) (dc dl_8 9 rfl) rfl ?_
  refine l_iadd (q := 667) (dc dl_8 10 rfl) rfl ?_
  refine l_sld (q := 668) (dc dl_8 11 rfl) rfl (by omega) (by omega) ?_
  refine l_aload (q := 669) (dc dl_8 12 rfl) rfl rfl 0 rfl ?_
  refine l_iload (q := 670) (dc dl_8 13 rfl) rfl rfl 3 rfl ?_
  refine l_iconst (q := 671) (dc dl_8 14 rfl) rfl ?_
  refine l_iadd (q := 672) (dc dl_8 15 rfl) rfl ?_
  refine l_sld (q := 673) (dc dl_8 16 rfl) rfl (by omega) (by omega) ?_
  refine l_aload (q := 674) (dc dl_8 17 rfl) rfl rfl 0 rfl ?_
  refine l_iload (q := 675) (dc dl_8 18 rfl) rfl rfl 3 rfl ?_
  refine l_iconst (q := 676) (dc dl_8 19 rfl) rfl ?_
  refine l_iadd (q := 677) (dc dl_8 20 rfl) rfl ?_
  refine l_sld (q := 678) (dc dl_8 21 rfl) rfl (by omega) (by omega) ?_
  refine l_call (q := 681) [I (xs (i + 1).toNat).toInt, I (xs (i + 2).toNat).toInt, I (xs (i + 3).toNat).toInt] mk_JS_line lm_LW_76 ⟨Nat.le_of_ble_eq_true rfl, Nat.le_of_ble_eq_true rfl⟩ rfl (dc dl_8 22 rfl) rfl ly0 rfl rfl (Nat.le_of_ble_eq_true rfl) hs (fun r1 σ1 _ hs => ?_)
  refine l_aload (q := 682) (dc dl_8 23 rfl) rfl rfl 2 rfl ?_
  refine l_aload (q := 683) (dc dl_8 24 rfl) rfl rfl 0 rfl ?_
  refine l_iload (q := 684) (dc dl_8 25 rfl) rfl rfl 3 rfl ?_
  refine l_iconst (q := 685) (dc dl_8 26 rfl) rfl ?_
  refine l_iadd (q := 686) (dc dl_8 27 rfl) rfl ?_
  refine l_sld (q := 687) (dc dl_8 28 rfl) rfl (by omega) (by omega) ?_
  refine l_aload (q := 688) (dc dl_8 29 rfl) rfl rfl 0 rfl ?_
  refine l_iload (q := 689) (dc dl_8 30 rfl) rfl rfl 3 rfl ?_
  refine l_iconst (q := 690) (dc dl_8 31 rfl) rfl ?_
  refine l_iadd (q := 691) (dc dl_8 32 rfl) rfl ?_
  refine l_sld (q := 692) (dc dl_8 33 rfl) rfl (by omega) (by omega) ?_
  refine l_aload (q := 693) (dc dl_8 34 rfl) rfl rfl 0 rfl ?_
  refine l_iload (q := 694) (dc dl_8 35 rfl) rfl rfl 3 rfl ?_
  refine l_iconst (q := 695) (dc dl_8 36 rfl) rfl ?_
  refine l_iadd (q := 696) (dc dl_8 37 rfl) rfl ?_
  refine l_sld (q := 697) (dc dl_8 38 rfl) rfl (by omega) (by omega) ?_
  refine l_call (q := 700) [I (xs (i + 1).toNat).toInt, I (xs (i + 2).toNat).toInt, I (xs (i + 3).toNat).toInt] mk_MO_line lm_LW_79 ⟨Nat.le_of_ble_eq_true rfl, Nat.le_of_ble_eq_true rfl⟩ rfl (dc dl_8 39 rfl) rfl ly8 rfl rfl (Nat.le_of_ble_eq_true rfl) hs (fun r2 σ2 _ hs => ?_)
  obtain ⟨rfl, hI⟩ := hs
  refine l_same (t := 1146) (dc dl_8 40 rfl) (by decide) ?_
  exact hL _ hI
theorem lc_15 {G : GT} {b Ln : Nat} {xs : Nat → Int32} {σ : St} {Inv : St → Prop} {i : Int} (hi : 0 ≤ i ∧ i + 7 ≤ Ln) (hLn : Ln ≤ 3584)
    (hs : CJ G m_JS_near [O 0, I (xs (i + 1).toNat).toInt] σ (fun r1 σ1 => CJ G m_MO_near [O 8, I (xs (i + 1).toNat).toInt] σ1 (fun r2 σ2 => r1 = r2 ∧ Inv σ2)))
    (hL : ∀ σ2, Inv σ2 → AL G b Ln xs 1146 [(0, .ref b), (1, .ref (aG G 0)), (2, .ref (aG G 8)), (3, .int (Int32.ofInt i))] [] σ2) : AL G b Ln xs 705 [(0, .ref b), (1, .ref (aG G 0)), (2, .ref (aG G 8)), (3, .int (Int32.ofInt i))] [] σ := by
  refine l_aload (q := 706) (dc dl_8 43 rfl) rfl rfl 1 rfl ?_
  refine l_aload (q := 707) (dc dl_8 44 rfl) rfl rfl 0 rfl ?_
  refine l_iload (q := 708) (dc dl_8 45 rfl) rfl rfl 3 rfl ?_
  refine l_iconst (q := 709) (dc dl_8 46 rfl) rfl ?_
  refine l_iadd (q := 710) (dc dl_8 47 rfl) rfl ?_
  refine l_sld (q := 711) (dc dl_8 48 rfl) rfl (by omega) (by omega) ?_
  refine l_call (q := 714) [I (xs (i + 1).toNat).toInt] mk_JS_near lm_LW_80 ⟨Nat.le_of_ble_eq_true rfl, Nat.le_of_ble_eq_true rfl⟩ rfl (dc dl_8 49 rfl) rfl ly0 rfl rfl (Nat.le_of_ble_eq_true rfl) hs (fun r1 σ1 _ hs => ?_)
  refine l_aload (q := 715) (dc dl_9 0 rfl) rfl rfl 2 rfl ?_
  refine l_aload (q := 716) (dc dl_9 1 rfl) rfl rfl 0 rfl ?_
  refine l_iload (q := 717) (dc dl_9 2 rfl) rfl rfl 3 rfl ?_
  refine l_iconst (q := 718) (dc dl_9 3 rfl) rfl ?_
  refine l_iadd (q := 719) (dc dl_9 4 rfl) rfl ?_
  refine l_sld (q := 720) (dc dl_9 5 rfl) rfl (by omega) (by omega) ?_
  refine l_call (q := 723) [I (xs (i + 1).toNat).toInt] mk_MO_near lm_LW_83 ⟨Nat.le_of_ble_eq_true rfl, Nat.le_of_ble_eq_true rfl⟩ rfl (dc dl_9 6 rfl) rfl ly8 rfl rfl (Nat.le_of_ble_eq_true rfl) hs (fun r2 σ2 _ hs => ?_)
  obtain ⟨rfl, hI⟩ := hs
  refine l_same (t := 1146) (dc dl_9 7 rfl) (by decide) ?_
  exact hL _ hI
theorem lc_16 {G : GT} {b Ln : Nat} {xs : Nat → Int32} {σ : St} {Inv : St → Prop} {i : Int} (hi : 0 ≤ i ∧ i + 7 ≤ Ln) (hLn : Ln ≤ 3584)
    (hs : CJ G m_JS_plain [O 0, I (xs (i + 1).toNat).toInt, I (xs (i + 2).toNat).toInt] σ (fun r1 σ1 => CJ G m_MO_plain [O 8, I (xs (i + 1).toNat).toInt, I (xs (i + 2).toNat).toInt] σ1 (fun r2 σ2 => r1 = r2 ∧ Inv σ2)))
    (hL : ∀ σ2, Inv σ2 → AL G b Ln xs 1146 [(0, .ref b), (1, .ref (aG G 0)), (2, .ref (aG G 8)), (3, .int (Int32.ofInt i))] [] σ2) : AL G b Ln xs 728 [(0, .ref b), (1, .ref (aG G 0)), (2, .ref (aG G 8)), (3, .int (Int32.ofInt i))] [] σ := by
  refine l_aload (q := 729) (dc dl_9 10 rfl) rfl rfl 1 rfl ?_
  refine l_aload (q := 730) (dc dl_9 11 rfl) rfl rfl 0 rfl ?_
  refine l_iload (q := 731) (dc dl_9 12 rfl) rfl rfl 3 rfl ?_
  refine l_iconst (q := 732) (dc dl_9 13 rfl) rfl ?_
  refine l_iadd (q := 733) (dc dl_9 14 rfl) rfl ?_
  refine l_sld (q := 734) (dc dl_9 15 rfl) rfl (by omega) (by omega) ?_
  refine l_aload (q := 735) (dc dl_9 16 rfl) rfl rfl 0 rfl ?_
  refine l_iload (q := 736) (dc dl_9 17 rfl) rfl rfl 3 rfl ?_
  refine l_iconst (q := 737) (dc dl_9 18 rfl) rfl ?_
  refine l_iadd (q := 738) (dc dl_9 19 rfl) rfl ?_
  refine l_sld (q := 739) (dc dl_9 20 rfl) rfl (by omega) (by omega) ?_
  refine l_call (q := 742) [I (xs (i + 1).toNat).toInt, I (xs (i + 2).toNat).toInt] mk_JS_plain lm_LW_84 ⟨Nat.le_of_ble_eq_true rfl, Nat.le_of_ble_eq_true rfl⟩ rfl (dc dl_9 21 rfl) rfl ly0 rfl rfl (Nat.le_of_ble_eq_true rfl) hs (fun r1 σ1 _ hs => ?_)
  refine l_aload (q := 743) (dc dl_9 22 rfl) rfl rfl 2 rfl ?_
  refine l_aload (q := 744) (dc dl_9 23 rfl) rfl rfl 0 rfl ?_
  refine l_iload (q := 745) (dc dl_9 24 rfl) rfl rfl 3 rfl ?_
  refine l_iconst (q := 746) (dc dl_9 25 rfl) rfl ?_
  refine l_iadd (q := 747) (dc dl_9 26 rfl) rfl ?_
  refine l_sld (q := 748) (dc dl_9 27 rfl) rfl (by omega) (by omega) ?_
  refine l_aload (q := 749) (dc dl_9 28 rfl) rfl rfl 0 rfl ?_
  refine l_iload (q := 750) (dc dl_9 29 rfl) rfl rfl 3 rfl ?_
  refine l_iconst (q := 751) (dc dl_9 30 rfl) rfl ?_
  refine l_iadd (q := 752) (dc dl_9 31 rfl) rfl ?_
  refine l_sld (q := 753) (dc dl_9 32 rfl) rfl (by omega) (by omega) ?_
  refine l_call (q := 756) [I (xs (i + 1).toNat).toInt, I (xs (i + 2).toNat).toInt] mk_MO_plain lm_LW_87 ⟨Nat.le_of_ble_eq_true rfl, Nat.le_of_ble_eq_true rfl⟩ rfl (dc dl_9 33 rfl) rfl ly8 rfl rfl (Nat.le_of_ble_eq_true rfl) hs (fun r2 σ2 _ hs => ?_)
  obtain ⟨rfl, hI⟩ := hs
  refine l_same (t := 1146) (dc dl_9 34 rfl) (by decide) ?_
  exact hL _ hI
theorem lc_17 {G : GT} {b Ln : Nat} {xs : Nat → Int32} {σ : St} {Inv : St → Prop} {i : Int} (hi : 0 ≤ i ∧ i + 7 ≤ Ln) (hLn : Ln ≤ 3584)
    (hs : CJ G m_JS_atHand [O 0, I (xs (i + 1).toNat).toInt] σ (fun r1 σ1 => CJ G m_MO_atHand [O 8, I (xs (i + 1).toNat).toInt] σ1 (fun r2 σ2 => r1 = r2 ∧ Inv σ2)))
    (hL : ∀ σ2, Inv σ2 → AL G b Ln xs 1146 [(0, .ref b), (1, .ref (aG G 0)), (2, .ref (aG G 8)), (3, .int (Int32.ofInt i))] [] σ2) : AL G b Ln xs 761 [(0, .ref b), (1, .ref (aG G 0)), (2, .ref (aG G 8)), (3, .int (Int32.ofInt i))] [] σ := by
  refine l_aload (q := 762) (dc dl_9 37 rfl) rfl rfl 1 rfl ?_
  refine l_aload (q := 763) (dc dl_9 38 rfl) rfl rfl 0 rfl ?_
  refine l_iload (q := 764) (dc dl_9 39 rfl) rfl rfl 3 rfl ?_
  refine l_iconst (q := 765) (dc dl_9 40 rfl) rfl ?_
  refine l_iadd (q := 766) (dc dl_9 41 rfl) rfl ?_
  refine l_sld (q := 767) (dc dl_9 42 rfl) rfl (by omega) (by omega) ?_
  refine l_call (q := 770) [I (xs (i + 1).toNat).toInt] mk_JS_atHand lm_LW_88 ⟨Nat.le_of_ble_eq_true rfl, Nat.le_of_ble_eq_true rfl⟩ rfl (dc dl_9 43 rfl) rfl ly0 rfl rfl (Nat.le_of_ble_eq_true rfl) hs (fun r1 σ1 _ hs => ?_)
  refine l_aload (q := 771) (dc dl_9 44 rfl) rfl rfl 2 rfl ?_
  refine l_aload (q := 772) (dc dl_9 45 rfl) rfl rfl 0 rfl ?_
  refine l_iload (q := 773) (dc dl_9 46 rfl) rfl rfl 3 rfl ?_
  refine l_iconst (q := 774) (dc dl_9 47 rfl) rfl ?_
  refine l_iadd (q := 775) (dc dl_9 48 rfl) rfl ?_
  refine l_sld (q := 776) (dc dl_9 49 rfl) rfl (by omega) (by omega) ?_
  refine l_call (q := 779) [I (xs (i + 1).toNat).toInt] mk_MO_atHand lm_LW_91 ⟨Nat.le_of_ble_eq_true rfl, Nat.le_of_ble_eq_true rfl⟩ rfl (dc dl_10 0 rfl) rfl ly8 rfl rfl (Nat.le_of_ble_eq_true rfl) hs (fun r2 σ2 _ hs => ?_)
  obtain ⟨rfl, hI⟩ := hs
  refine l_same (t := 1146) (dc dl_10 1 rfl) (by decide) ?_
  exact hL _ hI
theorem lc_18 {G : GT} {b Ln : Nat} {xs : Nat → Int32} {σ : St} {Inv : St → Prop} {i : Int} (hi : 0 ≤ i ∧ i + 7 ≤ Ln) (hLn : Ln ≤ 3584)
    (hs : CJ G m_JS_piece [O 0, I (xs (i + 1).toNat).toInt, I (xs (i + 2).toNat).toInt] σ (fun r1 σ1 => CJ G m_MO_piece [O 8, I (xs (i + 1).toNat).toInt, I (xs (i + 2).toNat).toInt] σ1 (fun r2 σ2 => r1 = r2 ∧ Inv σ2)))
    (hL : ∀ σ2, Inv σ2 → AL G b Ln xs 1146 [(0, .ref b), (1, .ref (aG G 0)), (2, .ref (aG G 8)), (3, .int (Int32.ofInt i))] [] σ2) : AL G b Ln xs 784 [(0, .ref b), (1, .ref (aG G 0)), (2, .ref (aG G 8)), (3, .int (Int32.ofInt i))] [] σ := by
  refine l_aload (q := 785) (dc dl_10 4 rfl) rfl rfl 1 rfl ?_
  refine l_aload (q := 786) (dc dl_10 5 rfl) rfl rfl 0 rfl ?_
  refine l_iload (q := 787) (dc dl_10 6 rfl) rfl rfl 3 rfl ?_
  refine l_iconst (q := 788) (dc dl_10 7 rfl) rfl ?_
  refine l_iadd (q := 789) (dc dl_10 8 rfl) rfl ?_
  refine l_sld (q := 790) (dc dl_10 9 rfl) rfl (by omega) (by omega) ?_
  refine l_aload (q := 791) (dc dl_10 10 rfl) rfl rfl 0 rfl ?_
  refine l_iload (q := 792) (dc dl_10 11 rfl) rfl rfl 3 rfl ?_
  refine l_iconst (q := 793) (dc dl_10 12 rfl) rfl ?_
  refine l_iadd (q := 794) (dc dl_10 13 rfl) rfl ?_
  refine l_sld (q := 795) (dc dl_10 14 rfl) rfl (by omega) (by omega) ?_
  refine l_call (q := 798) [I (xs (i + 1).toNat).toInt, I (xs (i + 2).toNat).toInt] mk_JS_piece lm_LW_92 ⟨Nat.le_of_ble_eq_true rfl, Nat.le_of_ble_eq_true rfl⟩ rfl (dc dl_10 15 rfl) rfl ly0 rfl rfl (Nat.le_of_ble_eq_true rfl) hs (fun r1 σ1 _ hs => ?_)
  refine l_aload (q := 799) (dc dl_10 16 rfl) rfl rfl 2 rfl ?_
  refine l_aload (q := 800) (dc dl_10 17 rfl) rfl rfl 0 rfl ?_
  refine l_iload (q := 801) (dc dl_10 18 rfl) rfl rfl 3 rfl ?_
  refine l_iconst (q := 802) (dc dl_10 19 rfl) rfl ?_
  refine l_iadd (q := 803) (dc dl_10 20 rfl) rfl ?_
  refine l_sld (q := 804) (dc dl_10 21 rfl) rfl (by omega) (by omega) ?_
  refine l_aload (q := 805) (dc dl_10 22 rfl) rfl rfl 0 rfl ?_
  refine l_iload (q := 806) (dc dl_10 23 rfl) rfl rfl 3 rfl ?_
  refine l_iconst (q := 807) (dc dl_10 24 rfl) rfl ?_
  refine l_iadd (q := 808) (dc dl_10 25 rfl) rfl ?_
  refine l_sld (q := 809) (dc dl_10 26 rfl) rfl (by omega) (by omega) ?_
  refine l_call (q := 812) [I (xs (i + 1).toNat).toInt, I (xs (i + 2).toNat).toInt] mk_MO_piece lm_LW_95 ⟨Nat.le_of_ble_eq_true rfl, Nat.le_of_ble_eq_true rfl⟩ rfl (dc dl_10 27 rfl) rfl ly8 rfl rfl (Nat.le_of_ble_eq_true rfl) hs (fun r2 σ2 _ hs => ?_)
  obtain ⟨rfl, hI⟩ := hs
  refine l_same (t := 1146) (dc dl_10 28 rfl) (by decide) ?_
  exact hL _ hI
theorem lc_19 {G : GT} {b Ln : Nat} {xs : Nat → Int32} {σ : St} {Inv : St → Prop} {i : Int} (hi : 0 ≤ i ∧ i + 7 ≤ Ln) (hLn : Ln ≤ 3584)
    (hs : CJ G m_JS_mark [O 0, I (xs (i + 1).toNat).toInt, I (xs (i + 2).toNat).toInt] σ (fun r1 σ1 => CJ G m_MO_mark [O 8, I (xs (i + 1).toNat).toInt, I (xs (i + 2).toNat).toInt] σ1 (fun r2 σ2 => r1 = r2 ∧ Inv σ2)))
    (hL : ∀ σ2, Inv σ2 → AL G b Ln xs 1146 [(0, .ref b), (1, .ref (aG G 0)), (2, .ref (aG G 8)), (3, .int (Int32.ofInt i))] [] σ2) : AL G b Ln xs 817 [(0, .ref b), (1, .ref (aG G 0)), (2, .ref (aG G 8)), (3, .int (Int32.ofInt i))] [] σ := by
  refine l_aload (q := 818) (dc dl_10 31 rfl) rfl rfl 1 rfl ?_
  refine l_aload (q := 819) (dc dl_10 32 rfl) rfl rfl 0 rfl ?_
  refine l_iload (q := 820) (dc dl_10 33 rfl) rfl rfl 3 rfl ?_
  refine l_iconst (q := 821) (dc dl_10 34 rfl) rfl ?_
  refine l_iadd (q := 822) (dc dl_10 35 rfl) rfl ?_
  refine l_sld (q := 823) (dc dl_10 36 rfl) rfl (by omega) (by omega) ?_
  refine l_aload (q := 824) (dc dl_10 37 rfl) rfl rfl 0 rfl ?_
  refine l_iload (q := 825) (dc dl_10 38 rfl) rfl rfl 3 rfl ?_
  refine l_iconst (q := 826) (dc dl_10 39 rfl) rfl ?_
  refine l_iadd (q := 827) (dc dl_10 40 rfl) rfl ?_
  refine l_sld (q := 828) (dc dl_10 41 rfl) rfl (by omega) (by omega) ?_
  refine l_call (q := 831) [I (xs (i + 1).toNat).toInt, I (xs (i + 2).toNat).toInt] mk_JS_mark lm_LW_96 ⟨Nat.le_of_ble_eq_true rfl, Nat.le_of_ble_eq_true rfl⟩ rfl (dc dl_10 42 rfl) rfl ly0 rfl rfl (Nat.le_of_ble_eq_true rfl) hs (fun r1 σ1 _ hs => ?_)
  refine l_aload (q := 832) (dc dl_10 43 rfl) rfl rfl 2 rfl ?_
  refine l_aload (q := 833) (dc dl_10 44 rfl) rfl rfl 0 rfl ?_
  refine l_iload (q := 834) (dc dl_10 45 rfl) rfl rfl 3 rfl ?_
  refine l_iconst (q := 835) (dc dl_10 46 rfl) rfl ?_
  refine l_iadd (q := 836) (dc dl_10 47 rfl) rfl ?_
  refine l_sld (q := 837) (dc dl_10 48 rfl) rfl (by omega) (by omega) ?_
  refine l_aload (q := 838) (dc dl_10 49 rfl) rfl rfl 0 rfl ?_
  refine l_iload (q := 839) (dc dl_11 0 rfl) rfl rfl 3 rfl ?_
  refine l_iconst (q := 840) (dc dl_11 1 rfl) rfl ?_
  refine l_iadd (q := 841) (dc dl_11 2 rfl) rfl ?_
  refine l_sld (q := 842) (dc dl_11 3 rfl) rfl (by omega) (by omega) ?_
  refine l_call (q := 845) [I (xs (i + 1).toNat).toInt, I (xs (i + 2).toNat).toInt] mk_MO_mark lm_LW_99 ⟨Nat.le_of_ble_eq_true rfl, Nat.le_of_ble_eq_true rfl⟩ rfl (dc dl_11 4 rfl) rfl ly8 rfl rfl (Nat.le_of_ble_eq_true rfl) hs (fun r2 σ2 _ hs => ?_)
  obtain ⟨rfl, hI⟩ := hs
  refine l_same (t := 1146) (dc dl_11 5 rfl) (by decide) ?_
  exact hL _ hI
theorem lc_20 {G : GT} {b Ln : Nat} {xs : Nat → Int32} {σ : St} {Inv : St → Prop} {i : Int} (hi : 0 ≤ i ∧ i + 7 ≤ Ln) (hLn : Ln ≤ 3584)
    (hs : CJ G m_JS_seen [O 0, I (xs (i + 1).toNat).toInt] σ (fun r1 σ1 => CJ G m_MO_seen [O 8, I (xs (i + 1).toNat).toInt] σ1 (fun r2 σ2 => r1 = r2 ∧ Inv σ2)))
    (hL : ∀ σ2, Inv σ2 → AL G b Ln xs 1146 [(0, .ref b), (1, .ref (aG G 0)), (2, .ref (aG G 8)), (3, .int (Int32.ofInt i))] [] σ2) : AL G b Ln xs 850 [(0, .ref b), (1, .ref (aG G 0)), (2, .ref (aG G 8)), (3, .int (Int32.ofInt i))] [] σ := by
  refine l_aload (q := 851) (dc dl_11 8 rfl) rfl rfl 1 rfl ?_
  refine l_aload (q := 852) (dc dl_11 9 rfl) rfl rfl 0 rfl ?_
  refine l_iload (q := 853) (dc dl_11 10 rfl) rfl rfl 3 rfl ?_
  refine l_iconst (q := 854) (dc dl_11 11 rfl) rfl ?_
  refine l_iadd (q := 855) (dc dl_11 12 rfl) rfl ?_
  refine l_sld (q := 856) (dc dl_11 13 rfl) rfl (by omega) (by omega) ?_
  refine l_call (q := 859) [I (xs (i + 1).toNat).toInt] mk_JS_seen lm_LW_100 ⟨Nat.le_of_ble_eq_true rfl, Nat.le_of_ble_eq_true rfl⟩ rfl (dc dl_11 14 rfl) rfl ly0 rfl rfl (Nat.le_of_ble_eq_true rfl) hs (fun r1 σ1 _ hs => ?_)
  refine l_aload (q := 860) (dc dl_11 15 rfl) rfl rfl 2 rfl ?_
  refine l_aload (q := 861) (dc dl_11 16 rfl) rfl rfl 0 rfl ?_
  refine l_iload (q := 862) (dc dl_11 17 rfl) rfl rfl 3 rfl ?_
  refine l_iconst (q := 863) (dc dl_11 18 rfl) rfl ?_
  refine l_iadd (q := 864) (dc dl_11 19 rfl) rfl ?_
  refine l_sld (q := 865) (dc dl_11 20 rfl) rfl (by omega) (by omega) ?_
  refine l_call (q := 868) [I (xs (i + 1).toNat).toInt] mk_MO_seen lm_LW_103 ⟨Nat.le_of_ble_eq_true rfl, Nat.le_of_ble_eq_true rfl⟩ rfl (dc dl_11 21 rfl) rfl ly8 rfl rfl (Nat.le_of_ble_eq_true rfl) hs (fun r2 σ2 _ hs => ?_)
  obtain ⟨rfl, hI⟩ := hs
  refine l_same (t := 1146) (dc dl_11 22 rfl) (by decide) ?_
  exact hL _ hI
theorem lc_21 {G : GT} {b Ln : Nat} {xs : Nat → Int32} {σ : St} {Inv : St → Prop} {i : Int} (hi : 0 ≤ i ∧ i + 7 ≤ Ln) (hLn : Ln ≤ 3584)
    (hs : CJ G m_JS_place [O 0, I (xs (i + 1).toNat).toInt] σ (fun r1 σ1 => CJ G m_MO_place [O 8, I (xs (i + 1).toNat).toInt] σ1 (fun r2 σ2 => r1 = r2 ∧ Inv σ2)))
    (hL : ∀ σ2, Inv σ2 → AL G b Ln xs 1146 [(0, .ref b), (1, .ref (aG G 0)), (2, .ref (aG G 8)), (3, .int (Int32.ofInt i))] [] σ2) : AL G b Ln xs 873 [(0, .ref b), (1, .ref (aG G 0)), (2, .ref (aG G 8)), (3, .int (Int32.ofInt i))] [] σ := by
  refine l_aload (q := 874) (dc dl_11 25 rfl) rfl rfl 1 rfl ?_
  refine l_aload (q := 875) (dc dl_11 26 rfl) rfl rfl 0 rfl ?_
  refine l_iload (q := 876) (dc dl_11 27 rfl) rfl rfl 3 rfl ?_
  refine l_iconst (q := 877) (dc dl_11 28 rfl) rfl ?_
  refine l_iadd (q := 878) (dc dl_11 29 rfl) rfl ?_
  refine l_sld (q := 879) (dc dl_11 30 rfl) rfl (by omega) (by omega) ?_
  refine l_call (q := 882) [I (xs (i + 1).toNat).toInt] mk_JS_place lm_LW_104 ⟨Nat.le_of_ble_eq_true rfl, Nat.le_of_ble_eq_true rfl⟩ rfl (dc dl_11 31 rfl) rfl ly0 rfl rfl (Nat.le_of_ble_eq_true rfl) hs (fun r1 σ1 _ hs => ?_)
  refine l_aload (q := 883) (dc dl_11 32 rfl) rfl rfl 2 rfl ?_
  refine l_aload (q := 884) (dc dl_11 33 rfl) rfl rfl 0 rfl ?_
  refine l_iload (q := 885) (dc dl_11 34 rfl) rfl rfl 3 rfl ?_
  refine l_iconst (q := 886) (dc dl_11 35 rfl) rfl ?_
  refine l_iadd (q := 887) (dc dl_11 36 rfl) rfl ?_
  refine l_sld (q := 888) (dc dl_11 37 rfl) rfl (by omega) (by omega) ?_
  refine l_call (q := 891) [I (xs (i + 1).toNat).toInt] mk_MO_place lm_LW_107 ⟨Nat.le_of_ble_eq_true rfl, Nat.le_of_ble_eq_true rfl⟩ rfl (dc dl_11 38 rfl) rfl ly8 rfl rfl (Nat.le_of_ble_eq_true rfl) hs (fun r2 σ2 _ hs => ?_)
  obtain ⟨rfl, hI⟩ := hs
  refine l_same (t := 1146) (dc dl_11 39 rfl) (by decide) ?_
  exact hL _ hI
theorem lc_22 {G : GT} {b Ln : Nat} {xs : Nat → Int32} {σ : St} {Inv : St → Prop} {i : Int} (hi : 0 ≤ i ∧ i + 7 ≤ Ln) (hLn : Ln ≤ 3584)
    (hs : CJ G m_JS_witness [O 0, I (xs (i + 1).toNat).toInt] σ (fun r1 σ1 => CJ G m_MO_witness [O 8, I (xs (i + 1).toNat).toInt] σ1 (fun r2 σ2 => r1 = r2 ∧ Inv σ2)))
    (hL : ∀ σ2, Inv σ2 → AL G b Ln xs 1146 [(0, .ref b), (1, .ref (aG G 0)), (2, .ref (aG G 8)), (3, .int (Int32.ofInt i))] [] σ2) : AL G b Ln xs 896 [(0, .ref b), (1, .ref (aG G 0)), (2, .ref (aG G 8)), (3, .int (Int32.ofInt i))] [] σ := by
  refine l_aload (q := 897) (dc dl_11 42 rfl) rfl rfl 1 rfl ?_
  refine l_aload (q := 898) (dc dl_11 43 rfl) rfl rfl 0 rfl ?_
  refine l_iload (q := 899) (dc dl_11 44 rfl) rfl rfl 3 rfl ?_
  refine l_iconst (q := 900) (dc dl_11 45 rfl) rfl ?_
  refine l_iadd (q := 901) (dc dl_11 46 rfl) rfl ?_
  refine l_sld (q := 902) (dc dl_11 47 rfl) rfl (by omega) (by omega) ?_
  refine l_call (q := 905) [I (xs (i + 1).toNat).toInt] mk_JS_witness lm_LW_108 ⟨Nat.le_of_ble_eq_true rfl, Nat.le_of_ble_eq_true rfl⟩ rfl (dc dl_11 48 rfl) rfl ly0 rfl rfl (Nat.le_of_ble_eq_true rfl) hs (fun r1 σ1 _ hs => ?_)
  refine l_aload (q := 906) (dc dl_11 49 rfl) rfl rfl 2 rfl ?_
  refine l_aload (q := 907) (dc dl_12 0 rfl) rfl rfl 0 rfl ?_
  refine l_iload (q := 908) (dc dl_12 1 rfl) rfl rfl 3 rfl ?_
  refine l_iconst (q := 909) (dc dl_12 2 rfl) rfl ?_
  refine l_iadd (q := 910) (dc dl_12 3 rfl) rfl ?_
  refine l_sld (q := 911) (dc dl_12 4 rfl) rfl (by omega) (by omega) ?_
  refine l_call (q := 914) [I (xs (i + 1).toNat).toInt] mk_MO_witness lm_LW_111 ⟨Nat.le_of_ble_eq_true rfl, Nat.le_of_ble_eq_true rfl⟩ rfl (dc dl_12 5 rfl) rfl ly8 rfl rfl (Nat.le_of_ble_eq_true rfl) hs (fun r2 σ2 _ hs => ?_)
  obtain ⟨rfl, hI⟩ := hs
  refine l_same (t := 1146) (dc dl_12 6 rfl) (by decide) ?_
  exact hL _ hI
theorem lc_23 {G : GT} {b Ln : Nat} {xs : Nat → Int32} {σ : St} {Inv : St → Prop} {i : Int} (hi : 0 ≤ i ∧ i + 7 ≤ Ln) (hLn : Ln ≤ 3584)
    (hs : CJ G m_JS_claim [O 0, I (xs (i + 1).toNat).toInt] σ (fun r1 σ1 => CJ G m_MO_claim [O 8, I (xs (i + 1).toNat).toInt] σ1 (fun r2 σ2 => r1 = r2 ∧ Inv σ2)))
    (hL : ∀ σ2, Inv σ2 → AL G b Ln xs 1146 [(0, .ref b), (1, .ref (aG G 0)), (2, .ref (aG G 8)), (3, .int (Int32.ofInt i))] [] σ2) : AL G b Ln xs 919 [(0, .ref b), (1, .ref (aG G 0)), (2, .ref (aG G 8)), (3, .int (Int32.ofInt i))] [] σ := by
  refine l_aload (q := 920) (dc dl_12 9 rfl) rfl rfl 1 rfl ?_
  refine l_aload (q := 921) (dc dl_12 10 rfl) rfl rfl 0 rfl ?_
  refine l_iload (q := 922) (dc dl_12 11 rfl) rfl rfl 3 rfl ?_
  refine l_iconst (q := 923) (dc dl_12 12 rfl) rfl ?_
  refine l_iadd (q := 924) (dc dl_12 13 rfl) rfl ?_
  refine l_sld (q := 925) (dc dl_12 14 rfl) rfl (by omega) (by omega) ?_
  refine l_call (q := 928) [I (xs (i + 1).toNat).toInt] mk_JS_claim lm_LW_112 ⟨Nat.le_of_ble_eq_true rfl, Nat.le_of_ble_eq_true rfl⟩ rfl (dc dl_12 15 rfl) rfl ly0 rfl rfl (Nat.le_of_ble_eq_true rfl) hs (fun r1 σ1 _ hs => ?_)
  refine l_aload (q := 929) (dc dl_12 16 rfl) rfl rfl 2 rfl ?_
  refine l_aload (q := 930) (dc dl_12 17 rfl) rfl rfl 0 rfl ?_
  refine l_iload (q := 931) (dc dl_12 18 rfl) rfl rfl 3 rfl ?_
  refine l_iconst (q := 932) (dc dl_12 19 rfl) rfl ?_
  refine l_iadd (q := 933) (dc dl_12 20 rfl) rfl ?_
  refine l_sld (q := 934) (dc dl_12 21 rfl) rfl (by omega) (by omega) ?_
  refine l_call (q := 937) [I (xs (i + 1).toNat).toInt] mk_MO_claim lm_LW_115 ⟨Nat.le_of_ble_eq_true rfl, Nat.le_of_ble_eq_true rfl⟩ rfl (dc dl_12 22 rfl) rfl ly8 rfl rfl (Nat.le_of_ble_eq_true rfl) hs (fun r2 σ2 _ hs => ?_)
  obtain ⟨rfl, hI⟩ := hs
  refine l_same (t := 1146) (dc dl_12 23 rfl) (by decide) ?_
  exact hL _ hI
theorem lc_24 {G : GT} {b Ln : Nat} {xs : Nat → Int32} {σ : St} {Inv : St → Prop} {i : Int} (hi : 0 ≤ i ∧ i + 7 ≤ Ln) (hLn : Ln ≤ 3584)
    (hs : CJ G m_JS_drop [O 0] σ (fun r1 σ1 => CJ G m_MO_drop [O 8] σ1 (fun r2 σ2 => r1 = r2 ∧ Inv σ2)))
    (hL : ∀ σ2, Inv σ2 → AL G b Ln xs 1146 [(0, .ref b), (1, .ref (aG G 0)), (2, .ref (aG G 8)), (3, .int (Int32.ofInt i))] [] σ2) : AL G b Ln xs 942 [(0, .ref b), (1, .ref (aG G 0)), (2, .ref (aG G 8)), (3, .int (Int32.ofInt i))] [] σ := by
  refine l_aload (q := 943) (dc dl_12 26 rfl) rfl rfl 1 rfl ?_
  refine l_call (q := 946) [] mk_JS_drop lm_LW_116 ⟨Nat.le_of_ble_eq_true rfl, Nat.le_of_ble_eq_true rfl⟩ rfl (dc dl_12 27 rfl) rfl ly0 rfl rfl (Nat.le_of_ble_eq_true rfl) hs (fun r1 σ1 _ hs => ?_)
  refine l_aload (q := 947) (dc dl_12 28 rfl) rfl rfl 2 rfl ?_
  refine l_call (q := 950) [] mk_MO_drop lm_LW_119 ⟨Nat.le_of_ble_eq_true rfl, Nat.le_of_ble_eq_true rfl⟩ rfl (dc dl_12 29 rfl) rfl ly8 rfl rfl (Nat.le_of_ble_eq_true rfl) hs (fun r2 σ2 _ hs => ?_)
  obtain ⟨rfl, hI⟩ := hs
  refine l_same (t := 1146) (dc dl_12 30 rfl) (by decide) ?_
  exact hL _ hI
theorem lc_25 {G : GT} {b Ln : Nat} {xs : Nat → Int32} {σ : St} {Inv : St → Prop} {i : Int} (hi : 0 ≤ i ∧ i + 7 ≤ Ln) (hLn : Ln ≤ 3584)
    (hs : CJ G m_JS_check [O 0, I (xs (i + 1).toNat).toInt, I (xs (i + 2).toNat).toInt] σ (fun r1 σ1 => CJ G m_MO_check [O 8, I (xs (i + 1).toNat).toInt, I (xs (i + 2).toNat).toInt] σ1 (fun r2 σ2 => r1 = r2 ∧ Inv σ2)))
    (hL : ∀ σ2, Inv σ2 → AL G b Ln xs 1146 [(0, .ref b), (1, .ref (aG G 0)), (2, .ref (aG G 8)), (3, .int (Int32.ofInt i))] [] σ2) : AL G b Ln xs 955 [(0, .ref b), (1, .ref (aG G 0)), (2, .ref (aG G 8)), (3, .int (Int32.ofInt i))] [] σ := by
  refine l_aload (q := 956) (dc dl_12 33 rfl) rfl rfl 1 rfl ?_
  refine l_aload (q := 957) (dc dl_12 34 rfl) rfl rfl 0 rfl ?_
  refine l_iload (q := 958) (dc dl_12 35 rfl) rfl rfl 3 rfl ?_
  refine l_iconst (q := 959) (dc dl_12 36 rfl) rfl ?_
  refine l_iadd (q := 960) (dc dl_12 37 rfl) rfl ?_
  refine l_sld (q := 961) (dc dl_12 38 rfl) rfl (by omega) (by omega) ?_
  refine l_aload (q := 962) (dc dl_12 39 rfl) rfl rfl 0 rfl ?_
  refine l_iload (q := 963) (dc dl_12 40 rfl) rfl rfl 3 rfl ?_
  refine l_iconst (q := 964) (dc dl_12 41 rfl) rfl ?_
  refine l_iadd (q := 965) (dc dl_12 42 rfl) rfl ?_
  refine l_sld (q := 966) (dc dl_12 43 rfl) rfl (by omega) (by omega) ?_
  refine l_call (q := 969) [I (xs (i + 1).toNat).toInt, I (xs (i + 2).toNat).toInt] mk_JS_check lm_LW_120 ⟨Nat.le_of_ble_eq_true rfl, Nat.le_of_ble_eq_true rfl⟩ rfl (dc dl_12 44 rfl) rfl ly0 rfl rfl (Nat.le_of_ble_eq_true rfl) hs (fun r1 σ1 _ hs => ?_)
  refine l_aload (q := 970) (dc dl_12 45 rfl) rfl rfl 2 rfl ?_
  refine l_aload (q := 971) (dc dl_12 46 rfl) rfl rfl 0 rfl ?_
  refine l_iload (q := 972) (dc dl_12 47 rfl) rfl rfl 3 rfl ?_
  refine l_iconst (q := 973) (dc dl_12 48 rfl) rfl ?_
  refine l_iadd (q := 974) (dc dl_12 49 rfl) rfl ?_
  refine l_sld (q := 975) (dc dl_13 0 rfl) rfl (by omega) (by omega) ?_
  refine l_aload (q := 976) (dc dl_13 1 rfl) rfl rfl 0 rfl ?_
  refine l_iload (q := 977) (dc dl_13 2 rfl) rfl rfl 3 rfl ?_
  refine l_iconst (q := 978) (dc dl_13 3 rfl) rfl ?_
  refine l_iadd (q := 979) (dc dl_13 4 rfl) rfl ?_
  refine l_sld (q := 980) (dc dl_13 5 rfl) rfl (by omega) (by omega) ?_
  refine l_call (q := 983) [I (xs (i + 1).toNat).toInt, I (xs (i + 2).toNat).toInt] mk_MO_check lm_LW_123 ⟨Nat.le_of_ble_eq_true rfl, Nat.le_of_ble_eq_true rfl⟩ rfl (dc dl_13 6 rfl) rfl ly8 rfl rfl (Nat.le_of_ble_eq_true rfl) hs (fun r2 σ2 _ hs => ?_)
  obtain ⟨rfl, hI⟩ := hs
  refine l_same (t := 1146) (dc dl_13 7 rfl) (by decide) ?_
  exact hL _ hI
theorem lc_26 {G : GT} {b Ln : Nat} {xs : Nat → Int32} {σ : St} {Inv : St → Prop} {i : Int} (hi : 0 ≤ i ∧ i + 7 ≤ Ln) (hLn : Ln ≤ 3584)
    (hs : CJ G m_JS_best [O 0, I (xs (i + 1).toNat).toInt] σ (fun r1 σ1 => CJ G m_MO_best [O 8, I (xs (i + 1).toNat).toInt] σ1 (fun r2 σ2 => r1 = r2 ∧ Inv σ2)))
    (hL : ∀ σ2, Inv σ2 → AL G b Ln xs 1146 [(0, .ref b), (1, .ref (aG G 0)), (2, .ref (aG G 8)), (3, .int (Int32.ofInt i))] [] σ2) : AL G b Ln xs 988 [(0, .ref b), (1, .ref (aG G 0)), (2, .ref (aG G 8)), (3, .int (Int32.ofInt i))] [] σ := by
  refine l_aload (q := 989) (dc dl_13 10 rfl) rfl rfl 1 rfl ?_
  refine l_aload (q := 990) (dc dl_13 11 rfl) rfl rfl 0 rfl ?_
  refine l_iload (q := 991) (dc dl_13 12 rfl) rfl rfl 3 rfl ?_
  refine l_iconst (q := 992) (dc dl_13 13 rfl) rfl ?_
  refine l_iadd (q := 993) (dc dl_13 14 rfl) rfl ?_
  refine l_sld (q := 994) (dc dl_13 15 rfl) rfl (by omega) (by omega) ?_
  refine l_call (q := 997) [I (xs (i + 1).toNat).toInt] mk_JS_best lm_LW_124 ⟨Nat.le_of_ble_eq_true rfl, Nat.le_of_ble_eq_true rfl⟩ rfl (dc dl_13 16 rfl) rfl ly0 rfl rfl (Nat.le_of_ble_eq_true rfl) hs (fun r1 σ1 _ hs => ?_)
  refine l_aload (q := 998) (dc dl_13 17 rfl) rfl rfl 2 rfl ?_
  refine l_aload (q := 999) (dc dl_13 18 rfl) rfl rfl 0 rfl ?_
  refine l_iload (q := 1000) (dc dl_13 19 rfl) rfl rfl 3 rfl ?_
  refine l_iconst (q := 1001) (dc dl_13 20 rfl) rfl ?_
  refine l_iadd (q := 1002) (dc dl_13 21 rfl) rfl ?_
  refine l_sld (q := 1003) (dc dl_13 22 rfl) rfl (by omega) (by omega) ?_
  refine l_call (q := 1006) [I (xs (i + 1).toNat).toInt] mk_MO_best lm_LW_127 ⟨Nat.le_of_ble_eq_true rfl, Nat.le_of_ble_eq_true rfl⟩ rfl (dc dl_13 23 rfl) rfl ly8 rfl rfl (Nat.le_of_ble_eq_true rfl) hs (fun r2 σ2 _ hs => ?_)
  obtain ⟨rfl, hI⟩ := hs
  refine l_same (t := 1146) (dc dl_13 24 rfl) (by decide) ?_
  exact hL _ hI
theorem lc_27 {G : GT} {b Ln : Nat} {xs : Nat → Int32} {σ : St} {Inv : St → Prop} {i : Int} (hi : 0 ≤ i ∧ i + 7 ≤ Ln) (hLn : Ln ≤ 3584)
    (hs : CJ G m_JS_lines [O 0, I (xs (i + 1).toNat).toInt, I (xs (i + 2).toNat).toInt] σ (fun r1 σ1 => CJ G m_MO_lines [O 8, I (xs (i + 1).toNat).toInt, I (xs (i + 2).toNat).toInt] σ1 (fun r2 σ2 => r1 = r2 ∧ Inv σ2)))
    (hL : ∀ σ2, Inv σ2 → AL G b Ln xs 1146 [(0, .ref b), (1, .ref (aG G 0)), (2, .ref (aG G 8)), (3, .int (Int32.ofInt i))] [] σ2) : AL G b Ln xs 1011 [(0, .ref b), (1, .ref (aG G 0)), (2, .ref (aG G 8)), (3, .int (Int32.ofInt i))] [] σ := by
  refine l_aload (q := 1012) (dc dl_13 27 rfl) rfl rfl 1 rfl ?_
  refine l_aload (q := 1013) (dc dl_13 28 rfl) rfl rfl 0 rfl ?_
  refine l_iload (q := 1014) (dc dl_13 29 rfl) rfl rfl 3 rfl ?_
  refine l_iconst (q := 1015) (dc dl_13 30 rfl) rfl ?_
  refine l_iadd (q := 1016) (dc dl_13 31 rfl) rfl ?_
  refine l_sld (q := 1017) (dc dl_13 32 rfl) rfl (by omega) (by omega) ?_
  refine l_aload (q := 1018) (dc dl_13 33 rfl) rfl rfl 0 rfl ?_
  refine l_iload (q := 1019) (dc dl_13 34 rfl) rfl rfl 3 rfl ?_
  refine l_iconst (q := 1020) (dc dl_13 35 rfl) rfl ?_
  refine l_iadd (q := 1021) (dc dl_13 36 rfl) rfl ?_
  refine l_sld (q := 1022) (dc dl_13 37 rfl) rfl (by omega) (by omega) ?_
  refine l_call (q := 1025) [I (xs (i + 1).toNat).toInt, I (xs (i + 2).toNat).toInt] mk_JS_lines lm_LW_128 ⟨Nat.le_of_ble_eq_true rfl, Nat.le_of_ble_eq_true rfl⟩ rfl (dc dl_13 38 rfl) rfl ly0 rfl rfl (Nat.le_of_ble_eq_true rfl) hs (fun r1 σ1 _ hs => ?_)
  refine l_aload (q := 1026) (dc dl_13 39 rfl) rfl rfl 2 rfl ?_
  refine l_aload (q := 1027) (dc dl_13 40 rfl) rfl rfl 0 rfl ?_
  refine l_iload (q := 1028) (dc dl_13 41 rfl) rfl rfl 3 rfl ?_
  refine l_iconst (q := 1029) (dc dl_13 42 rfl) rfl ?_
  refine l_iadd (q := 1030) (dc dl_13 43 rfl) rfl ?_
  refine l_sld (q := 1031) (dc dl_13 44 rfl) rfl (by omega) (by omega) ?_
  refine l_aload (q := 1032) (dc dl_13 45 rfl) rfl rfl 0 rfl ?_
  refine l_iload (q := 1033) (dc dl_13 46 rfl) rfl rfl 3 rfl ?_
  refine l_iconst (q := 1034) (dc dl_13 47 rfl) rfl ?_
  refine l_iadd (q := 1035) (dc dl_13 48 rfl) rfl ?_
  refine l_sld (q := 1036) (dc dl_13 49 rfl) rfl (by omega) (by omega) ?_
  refine l_call (q := 1039) [I (xs (i + 1).toNat).toInt, I (xs (i + 2).toNat).toInt] mk_MO_lines lm_LW_131 ⟨Nat.le_of_ble_eq_true rfl, Nat.le_of_ble_eq_true rfl⟩ rfl (dc dl_14 0 rfl) rfl ly8 rfl rfl (Nat.le_of_ble_eq_true rfl) hs (fun r2 σ2 _ hs => ?_)
  obtain ⟨rfl, hI⟩ := hs
  refine l_same (t := 1146) (dc dl_14 1 rfl) (by decide) ?_
  exact hL _ hI
theorem lc_28 {G : GT} {b Ln : Nat} {xs : Nat → Int32} {σ : St} {Inv : St → Prop} {i : Int} (hi : 0 ≤ i ∧ i + 7 ≤ Ln) (hLn : Ln ≤ 3584)
    (hs : CJ G m_JS_take [O 0, I (xs (i + 1).toNat).toInt] σ (fun r1 σ1 => CJ G m_MO_take [O 8, I (xs (i + 1).toNat).toInt] σ1 (fun r2 σ2 => r1 = r2 ∧ Inv σ2)))
    (hL : ∀ σ2, Inv σ2 → AL G b Ln xs 1146 [(0, .ref b), (1, .ref (aG G 0)), (2, .ref (aG G 8)), (3, .int (Int32.ofInt i))] [] σ2) : AL G b Ln xs 1044 [(0, .ref b), (1, .ref (aG G 0)), (2, .ref (aG G 8)), (3, .int (Int32.ofInt i))] [] σ := by
  refine l_aload (q := 1045) (dc dl_14 4 rfl) rfl rfl 1 rfl ?_
  refine l_aload (q := 1046) (dc dl_14 5 rfl) rfl rfl 0 rfl ?_
  refine l_iload (q := 1047) (dc dl_14 6 rfl) rfl rfl 3 rfl ?_
  refine l_iconst (q := 1048) (dc dl_14 7 rfl) rfl ?_
  refine l_iadd (q := 1049) (dc dl_14 8 rfl) rfl ?_
  refine l_sld (q := 1050) (dc dl_14 9 rfl) rfl (by omega) (by omega) ?_
  refine l_call (q := 1053) [I (xs (i + 1).toNat).toInt] mk_JS_take lm_LW_132 ⟨Nat.le_of_ble_eq_true rfl, Nat.le_of_ble_eq_true rfl⟩ rfl (dc dl_14 10 rfl) rfl ly0 rfl rfl (Nat.le_of_ble_eq_true rfl) hs (fun r1 σ1 _ hs => ?_)
  refine l_aload (q := 1054) (dc dl_14 11 rfl) rfl rfl 2 rfl ?_
  refine l_aload (q := 1055) (dc dl_14 12 rfl) rfl rfl 0 rfl ?_
  refine l_iload (q := 1056) (dc dl_14 13 rfl) rfl rfl 3 rfl ?_
  refine l_iconst (q := 1057) (dc dl_14 14 rfl) rfl ?_
  refine l_iadd (q := 1058) (dc dl_14 15 rfl) rfl ?_
  refine l_sld (q := 1059) (dc dl_14 16 rfl) rfl (by omega) (by omega) ?_
  refine l_call (q := 1062) [I (xs (i + 1).toNat).toInt] mk_MO_take lm_LW_135 ⟨Nat.le_of_ble_eq_true rfl, Nat.le_of_ble_eq_true rfl⟩ rfl (dc dl_14 17 rfl) rfl ly8 rfl rfl (Nat.le_of_ble_eq_true rfl) hs (fun r2 σ2 _ hs => ?_)
  obtain ⟨rfl, hI⟩ := hs
  refine l_same (t := 1146) (dc dl_14 18 rfl) (by decide) ?_
  exact hL _ hI
theorem lc_29 {G : GT} {b Ln : Nat} {xs : Nat → Int32} {σ : St} {Inv : St → Prop} {i : Int} (hi : 0 ≤ i ∧ i + 7 ≤ Ln) (hLn : Ln ≤ 3584)
    (hs : CJ G m_JS_pages [O 0, I (xs (i + 1).toNat).toInt] σ (fun r1 σ1 => CJ G m_MO_pages [O 8, I (xs (i + 1).toNat).toInt] σ1 (fun r2 σ2 => r1 = r2 ∧ Inv σ2)))
    (hL : ∀ σ2, Inv σ2 → AL G b Ln xs 1146 [(0, .ref b), (1, .ref (aG G 0)), (2, .ref (aG G 8)), (3, .int (Int32.ofInt i))] [] σ2) : AL G b Ln xs 1067 [(0, .ref b), (1, .ref (aG G 0)), (2, .ref (aG G 8)), (3, .int (Int32.ofInt i))] [] σ := by
  refine l_aload (q := 1068) (dc dl_14 21 rfl) rfl rfl 1 rfl ?_
  refine l_aload (q := 1069) (dc dl_14 22 rfl) rfl rfl 0 rfl ?_
  refine l_iload (q := 1070) (dc dl_14 23 rfl) rfl rfl 3 rfl ?_
  refine l_iconst (q := 1071) (dc dl_14 24 rfl) rfl ?_
  refine l_iadd (q := 1072) (dc dl_14 25 rfl) rfl ?_
  refine l_sld (q := 1073) (dc dl_14 26 rfl) rfl (by omega) (by omega) ?_
  refine l_call (q := 1076) [I (xs (i + 1).toNat).toInt] mk_JS_pages lm_LW_136 ⟨Nat.le_of_ble_eq_true rfl, Nat.le_of_ble_eq_true rfl⟩ rfl (dc dl_14 27 rfl) rfl ly0 rfl rfl (Nat.le_of_ble_eq_true rfl) hs (fun r1 σ1 _ hs => ?_)
  refine l_aload (q := 1077) (dc dl_14 28 rfl) rfl rfl 2 rfl ?_
  refine l_aload (q := 1078) (dc dl_14 29 rfl) rfl rfl 0 rfl ?_
  refine l_iload (q := 1079) (dc dl_14 30 rfl) rfl rfl 3 rfl ?_
  refine l_iconst (q := 1080) (dc dl_14 31 rfl) rfl ?_
  refine l_iadd (q := 1081) (dc dl_14 32 rfl) rfl ?_
  refine l_sld (q := 1082) (dc dl_14 33 rfl) rfl (by omega) (by omega) ?_
  refine l_call (q := 1085) [I (xs (i + 1).toNat).toInt] mk_MO_pages lm_LW_139 ⟨Nat.le_of_ble_eq_true rfl, Nat.le_of_ble_eq_true rfl⟩ rfl (dc dl_14 34 rfl) rfl ly8 rfl rfl (Nat.le_of_ble_eq_true rfl) hs (fun r2 σ2 _ hs => ?_)
  obtain ⟨rfl, hI⟩ := hs
  refine l_same (t := 1146) (dc dl_14 35 rfl) (by decide) ?_
  exact hL _ hI
theorem lc_30 {G : GT} {b Ln : Nat} {xs : Nat → Int32} {σ : St} {Inv : St → Prop} {i : Int} (hi : 0 ≤ i ∧ i + 7 ≤ Ln) (hLn : Ln ≤ 3584)
    (hs : CJ G m_JS_page [O 0, I (xs (i + 1).toNat).toInt, I (xs (i + 2).toNat).toInt] σ (fun r1 σ1 => CJ G m_MO_page [O 8, I (xs (i + 1).toNat).toInt, I (xs (i + 2).toNat).toInt] σ1 (fun r2 σ2 => r1 = r2 ∧ Inv σ2)))
    (hL : ∀ σ2, Inv σ2 → AL G b Ln xs 1146 [(0, .ref b), (1, .ref (aG G 0)), (2, .ref (aG G 8)), (3, .int (Int32.ofInt i))] [] σ2) : AL G b Ln xs 1090 [(0, .ref b), (1, .ref (aG G 0)), (2, .ref (aG G 8)), (3, .int (Int32.ofInt i))] [] σ := by
  refine l_aload (q := 1091) (dc dl_14 38 rfl) rfl rfl 1 rfl ?_
  refine l_aload (q := 1092) (dc dl_14 39 rfl) rfl rfl 0 rfl ?_
  refine l_iload (q := 1093) (dc dl_14 40 rfl) rfl rfl 3 rfl ?_
  refine l_iconst (q := 1094) (dc dl_14 41 rfl) rfl ?_
  refine l_iadd (q := 1095) (dc dl_14 42 rfl) rfl ?_
  refine l_sld (q := 1096) (dc dl_14 43 rfl) rfl (by omega) (by omega) ?_
  refine l_aload (q := 1097) (dc dl_14 44 rfl) rfl rfl 0 rfl ?_
  refine l_iload (q := 1098) (dc dl_14 45 rfl) rfl rfl 3 rfl ?_
  refine l_iconst (q := 1099) (dc dl_14 46 rfl) rfl ?_
  refine l_iadd (q := 1100) (dc dl_14 47 rfl) rfl ?_
  refine l_sld (q := 1101) (dc dl_14 48 rfl) rfl (by omega) (by omega) ?_
  refine l_call (q := 1104) [I (xs (i + 1).toNat).toInt, I (xs (i + 2).toNat).toInt] mk_JS_page lm_LW_140 ⟨Nat.le_of_ble_eq_true rfl, Nat.le_of_ble_eq_true rfl⟩ rfl (dc dl_14 49 rfl) rfl ly0 rfl rfl (Nat.le_of_ble_eq_true rfl) hs (fun r1 σ1 _ hs => ?_)
  refine l_aload (q := 1105) (dc dl_15 0 rfl) rfl rfl 2 rfl ?_
  refine l_aload (q := 1106) (dc dl_15 1 rfl) rfl rfl 0 rfl ?_
  refine l_iload (q := 1107) (dc dl_15 2 rfl) rfl rfl 3 rfl ?_
  refine l_iconst (q := 1108) (dc dl_15 3 rfl) rfl ?_
  refine l_iadd (q := 1109) (dc dl_15 4 rfl) rfl ?_
  refine l_sld (q := 1110) (dc dl_15 5 rfl) rfl (by omega) (by omega) ?_
  refine l_aload (q := 1111) (dc dl_15 6 rfl) rfl rfl 0 rfl ?_
  refine l_iload (q := 1112) (dc dl_15 7 rfl) rfl rfl 3 rfl ?_
  refine l_iconst (q := 1113) (dc dl_15 8 rfl) rfl ?_
  refine l_iadd (q := 1114) (dc dl_15 9 rfl) rfl ?_
  refine l_sld (q := 1115) (dc dl_15 10 rfl) rfl (by omega) (by omega) ?_
  refine l_call (q := 1118) [I (xs (i + 1).toNat).toInt, I (xs (i + 2).toNat).toInt] mk_MO_page lm_LW_143 ⟨Nat.le_of_ble_eq_true rfl, Nat.le_of_ble_eq_true rfl⟩ rfl (dc dl_15 11 rfl) rfl ly8 rfl rfl (Nat.le_of_ble_eq_true rfl) hs (fun r2 σ2 _ hs => ?_)
  obtain ⟨rfl, hI⟩ := hs
  refine l_same (t := 1146) (dc dl_15 12 rfl) (by decide) ?_
  exact hL _ hI
theorem lc_31 {G : GT} {b Ln : Nat} {xs : Nat → Int32} {σ : St} {Inv : St → Prop} {i : Int} (hi : 0 ≤ i ∧ i + 7 ≤ Ln) (hLn : Ln ≤ 3584)
    (hs : CJ G m_JS_told [O 0, I (xs (i + 1).toNat).toInt] σ (fun r1 σ1 => CJ G m_MO_told [O 8, I (xs (i + 1).toNat).toInt] σ1 (fun r2 σ2 => r1 = r2 ∧ Inv σ2)))
    (hL : ∀ σ2, Inv σ2 → AL G b Ln xs 1146 [(0, .ref b), (1, .ref (aG G 0)), (2, .ref (aG G 8)), (3, .int (Int32.ofInt i))] [] σ2) : AL G b Ln xs 1123 [(0, .ref b), (1, .ref (aG G 0)), (2, .ref (aG G 8)), (3, .int (Int32.ofInt i))] [] σ := by
  refine l_aload (q := 1124) (dc dl_15 15 rfl) rfl rfl 1 rfl ?_
  refine l_aload (q := 1125) (dc dl_15 16 rfl) rfl rfl 0 rfl ?_
  refine l_iload (q := 1126) (dc dl_15 17 rfl) rfl rfl 3 rfl ?_
  refine l_iconst (q := 1127) (dc dl_15 18 rfl) rfl ?_
  refine l_iadd (q := 1128) (dc dl_15 19 rfl) rfl ?_
  refine l_sld (q := 1129) (dc dl_15 20 rfl) rfl (by omega) (by omega) ?_
  refine l_call (q := 1132) [I (xs (i + 1).toNat).toInt] mk_JS_told lm_LW_144 ⟨Nat.le_of_ble_eq_true rfl, Nat.le_of_ble_eq_true rfl⟩ rfl (dc dl_15 21 rfl) rfl ly0 rfl rfl (Nat.le_of_ble_eq_true rfl) hs (fun r1 σ1 _ hs => ?_)
  refine l_aload (q := 1133) (dc dl_15 22 rfl) rfl rfl 2 rfl ?_
  refine l_aload (q := 1134) (dc dl_15 23 rfl) rfl rfl 0 rfl ?_
  refine l_iload (q := 1135) (dc dl_15 24 rfl) rfl rfl 3 rfl ?_
  refine l_iconst (q := 1136) (dc dl_15 25 rfl) rfl ?_
  refine l_iadd (q := 1137) (dc dl_15 26 rfl) rfl ?_
  refine l_sld (q := 1138) (dc dl_15 27 rfl) rfl (by omega) (by omega) ?_
  refine l_call (q := 1141) [I (xs (i + 1).toNat).toInt] mk_MO_told lm_LW_147 ⟨Nat.le_of_ble_eq_true rfl, Nat.le_of_ble_eq_true rfl⟩ rfl (dc dl_15 28 rfl) rfl ly8 rfl rfl (Nat.le_of_ble_eq_true rfl) hs (fun r2 σ2 _ hs => ?_)
  obtain ⟨rfl, hI⟩ := hs
  refine l_same (t := 1146) (dc dl_15 29 rfl) (by decide) ?_
  exact hL _ hI
def SO_letter (G : GT) (Inv : Nat → St → Prop) : Prop := ∀ (k : Nat) (σ : St), k < 512 → Inv k σ → ∀ a1 : Int, rng a1 → CJ G m_JS_letter [O 0, I a1] σ (fun r1 σ1 => CJ G m_MO_letter [O 8, I a1] σ1 (fun r2 σ2 => r1 = r2 ∧ Inv (k + 1) σ2))
def SO_ligature (G : GT) (Inv : Nat → St → Prop) : Prop := ∀ (k : Nat) (σ : St), k < 512 → Inv k σ → ∀ a1 a2 a3 a4 : Int, rng a1 → rng a2 → rng a3 → (a4 = 0 ∨ a4 = 1) → CJ G m_JS_ligature [O 0, I a1, I a2, I a3, I a4] σ (fun r1 σ1 => CJ G m_MO_ligature [O 8, I a1, I a2, I a3, I a4] σ1 (fun r2 σ2 => r1 = r2 ∧ Inv (k + 1) σ2))
def SO_form (G : GT) (Inv : Nat → St → Prop) : Prop := ∀ (k : Nat) (σ : St), k < 512 → Inv k σ → ∀ a1 a2 a3 a4 a5 a6 : Int, rng a1 → rng a2 → rng a3 → rng a4 → rng a5 → rng a6 → CJ G m_JS_form [O 0, I a1, I a2, I a3, I a4, I a5, I a6] σ (fun r1 σ1 => CJ G m_MO_form [O 8, I a1, I a2, I a3, I a4, I a5, I a6] σ1 (fun r2 σ2 => r1 = r2 ∧ Inv (k + 1) σ2))
def SO_stretch (G : GT) (Inv : Nat → St → Prop) : Prop := ∀ (k : Nat) (σ : St), k < 512 → Inv k σ → ∀ a1 a2 a3 : Int, rng a1 → rng a2 → rng a3 → CJ G m_JS_stretch [O 0, I a1, I a2, I a3] σ (fun r1 σ1 => CJ G m_MO_stretch [O 8, I a1, I a2, I a3] σ1 (fun r2 σ2 => r1 = r2 ∧ Inv (k + 1) σ2))
def SO_point (G : GT) (Inv : Nat → St → Prop) : Prop := ∀ (k : Nat) (σ : St), k < 512 → Inv k σ → ∀ a1 a2 : Int, rng a1 → rng a2 → CJ G m_JS_point [O 0, I a1, I a2] σ (fun r1 σ1 => CJ G m_MO_point [O 8, I a1, I a2] σ1 (fun r2 σ2 => r1 = r2 ∧ Inv (k + 1) σ2))
def SO_bar (G : GT) (Inv : Nat → St → Prop) : Prop := ∀ (k : Nat) (σ : St), k < 512 → Inv k σ → ∀ a1 a2 : Int, rng a1 → (a2 = 0 ∨ a2 = 1) → CJ G m_JS_bar [O 0, I a1, I a2] σ (fun r1 σ1 => CJ G m_MO_bar [O 8, I a1, I a2] σ1 (fun r2 σ2 => r1 = r2 ∧ Inv (k + 1) σ2))
def SO_about (G : GT) (Inv : Nat → St → Prop) : Prop := ∀ (k : Nat) (σ : St), k < 512 → Inv k σ → ∀ a1 a2 : Int, rng a1 → rng a2 → CJ G m_JS_about [O 0, I a1, I a2] σ (fun r1 σ1 => CJ G m_MO_about [O 8, I a1, I a2] σ1 (fun r2 σ2 => r1 = r2 ∧ Inv (k + 1) σ2))
def SO_type (G : GT) (Inv : Nat → St → Prop) : Prop := ∀ (k : Nat) (σ : St), k < 512 → Inv k σ → ∀ a1 : Int, rng a1 → CJ G m_JS_type [O 0, I a1] σ (fun r1 σ1 => CJ G m_MO_type [O 8, I a1] σ1 (fun r2 σ2 => r1 = r2 ∧ Inv (k + 1) σ2))
def SO_insert (G : GT) (Inv : Nat → St → Prop) : Prop := ∀ (k : Nat) (σ : St), k < 512 → Inv k σ → ∀ a1 a2 : Int, rng a1 → rng a2 → CJ G m_JS_insert [O 0, I a1, I a2] σ (fun r1 σ1 => CJ G m_MO_insert [O 8, I a1, I a2] σ1 (fun r2 σ2 => r1 = r2 ∧ Inv (k + 1) σ2))
def SO_remove (G : GT) (Inv : Nat → St → Prop) : Prop := ∀ (k : Nat) (σ : St), k < 512 → Inv k σ → ∀ a1 : Int, rng a1 → CJ G m_JS_remove [O 0, I a1] σ (fun r1 σ1 => CJ G m_MO_remove [O 8, I a1] σ1 (fun r2 σ2 => r1 = r2 ∧ Inv (k + 1) σ2))
def SO_undo (G : GT) (Inv : Nat → St → Prop) : Prop := ∀ (k : Nat) (σ : St), k < 512 → Inv k σ →  CJ G m_JS_undo [O 0] σ (fun r1 σ1 => CJ G m_MO_undo [O 8] σ1 (fun r2 σ2 => r1 = r2 ∧ Inv (k + 1) σ2))
def SO_text (G : GT) (Inv : Nat → St → Prop) : Prop := ∀ (k : Nat) (σ : St), k < 512 → Inv k σ → ∀ a1 : Int, rng a1 → CJ G m_JS_text [O 0, I a1] σ (fun r1 σ1 => CJ G m_MO_text [O 8, I a1] σ1 (fun r2 σ2 => r1 = r2 ∧ Inv (k + 1) σ2))
def SO_shape (G : GT) (Inv : Nat → St → Prop) : Prop := ∀ (k : Nat) (σ : St), k < 512 → Inv k σ → ∀ a1 a2 : Int, rng a1 → rng a2 → CJ G m_JS_shape [O 0, I a1, I a2] σ (fun r1 σ1 => CJ G m_MO_shape [O 8, I a1, I a2] σ1 (fun r2 σ2 => r1 = r2 ∧ Inv (k + 1) σ2))
def SO_words (G : GT) (Inv : Nat → St → Prop) : Prop := ∀ (k : Nat) (σ : St), k < 512 → Inv k σ →  CJ G m_JS_words [O 0] σ (fun r1 σ1 => CJ G m_MO_words [O 8] σ1 (fun r2 σ2 => r1 = r2 ∧ Inv (k + 1) σ2))
def SO_line (G : GT) (Inv : Nat → St → Prop) : Prop := ∀ (k : Nat) (σ : St), k < 512 → Inv k σ → ∀ a1 a2 a3 : Int, rng a1 → rng a2 → rng a3 → CJ G m_JS_line [O 0, I a1, I a2, I a3] σ (fun r1 σ1 => CJ G m_MO_line [O 8, I a1, I a2, I a3] σ1 (fun r2 σ2 => r1 = r2 ∧ Inv (k + 1) σ2))
def SO_near (G : GT) (Inv : Nat → St → Prop) : Prop := ∀ (k : Nat) (σ : St), k < 512 → Inv k σ → ∀ a1 : Int, rng a1 → CJ G m_JS_near [O 0, I a1] σ (fun r1 σ1 => CJ G m_MO_near [O 8, I a1] σ1 (fun r2 σ2 => r1 = r2 ∧ Inv (k + 1) σ2))
def SO_plain (G : GT) (Inv : Nat → St → Prop) : Prop := ∀ (k : Nat) (σ : St), k < 512 → Inv k σ → ∀ a1 a2 : Int, rng a1 → rng a2 → CJ G m_JS_plain [O 0, I a1, I a2] σ (fun r1 σ1 => CJ G m_MO_plain [O 8, I a1, I a2] σ1 (fun r2 σ2 => r1 = r2 ∧ Inv (k + 1) σ2))
def SO_atHand (G : GT) (Inv : Nat → St → Prop) : Prop := ∀ (k : Nat) (σ : St), k < 512 → Inv k σ → ∀ a1 : Int, rng a1 → CJ G m_JS_atHand [O 0, I a1] σ (fun r1 σ1 => CJ G m_MO_atHand [O 8, I a1] σ1 (fun r2 σ2 => r1 = r2 ∧ Inv (k + 1) σ2))
def SO_piece (G : GT) (Inv : Nat → St → Prop) : Prop := ∀ (k : Nat) (σ : St), k < 512 → Inv k σ → ∀ a1 a2 : Int, rng a1 → rng a2 → CJ G m_JS_piece [O 0, I a1, I a2] σ (fun r1 σ1 => CJ G m_MO_piece [O 8, I a1, I a2] σ1 (fun r2 σ2 => r1 = r2 ∧ Inv (k + 1) σ2))
def SO_mark (G : GT) (Inv : Nat → St → Prop) : Prop := ∀ (k : Nat) (σ : St), k < 512 → Inv k σ → ∀ a1 a2 : Int, rng a1 → rng a2 → CJ G m_JS_mark [O 0, I a1, I a2] σ (fun r1 σ1 => CJ G m_MO_mark [O 8, I a1, I a2] σ1 (fun r2 σ2 => r1 = r2 ∧ Inv (k + 1) σ2))
def SO_seen (G : GT) (Inv : Nat → St → Prop) : Prop := ∀ (k : Nat) (σ : St), k < 512 → Inv k σ → ∀ a1 : Int, rng a1 → CJ G m_JS_seen [O 0, I a1] σ (fun r1 σ1 => CJ G m_MO_seen [O 8, I a1] σ1 (fun r2 σ2 => r1 = r2 ∧ Inv (k + 1) σ2))
def SO_place (G : GT) (Inv : Nat → St → Prop) : Prop := ∀ (k : Nat) (σ : St), k < 512 → Inv k σ → ∀ a1 : Int, rng a1 → CJ G m_JS_place [O 0, I a1] σ (fun r1 σ1 => CJ G m_MO_place [O 8, I a1] σ1 (fun r2 σ2 => r1 = r2 ∧ Inv (k + 1) σ2))
def SO_witness (G : GT) (Inv : Nat → St → Prop) : Prop := ∀ (k : Nat) (σ : St), k < 512 → Inv k σ → ∀ a1 : Int, rng a1 → CJ G m_JS_witness [O 0, I a1] σ (fun r1 σ1 => CJ G m_MO_witness [O 8, I a1] σ1 (fun r2 σ2 => r1 = r2 ∧ Inv (k + 1) σ2))
def SO_claim (G : GT) (Inv : Nat → St → Prop) : Prop := ∀ (k : Nat) (σ : St), k < 512 → Inv k σ → ∀ a1 : Int, rng a1 → CJ G m_JS_claim [O 0, I a1] σ (fun r1 σ1 => CJ G m_MO_claim [O 8, I a1] σ1 (fun r2 σ2 => r1 = r2 ∧ Inv (k + 1) σ2))
def SO_drop (G : GT) (Inv : Nat → St → Prop) : Prop := ∀ (k : Nat) (σ : St), k < 512 → Inv k σ →  CJ G m_JS_drop [O 0] σ (fun r1 σ1 => CJ G m_MO_drop [O 8] σ1 (fun r2 σ2 => r1 = r2 ∧ Inv (k + 1) σ2))
def SO_check (G : GT) (Inv : Nat → St → Prop) : Prop := ∀ (k : Nat) (σ : St), k < 512 → Inv k σ → ∀ a1 a2 : Int, rng a1 → rng a2 → CJ G m_JS_check [O 0, I a1, I a2] σ (fun r1 σ1 => CJ G m_MO_check [O 8, I a1, I a2] σ1 (fun r2 σ2 => r1 = r2 ∧ Inv (k + 1) σ2))
def SO_best (G : GT) (Inv : Nat → St → Prop) : Prop := ∀ (k : Nat) (σ : St), k < 512 → Inv k σ → ∀ a1 : Int, rng a1 → CJ G m_JS_best [O 0, I a1] σ (fun r1 σ1 => CJ G m_MO_best [O 8, I a1] σ1 (fun r2 σ2 => r1 = r2 ∧ Inv (k + 1) σ2))
def SO_lines (G : GT) (Inv : Nat → St → Prop) : Prop := ∀ (k : Nat) (σ : St), k < 512 → Inv k σ → ∀ a1 a2 : Int, rng a1 → rng a2 → CJ G m_JS_lines [O 0, I a1, I a2] σ (fun r1 σ1 => CJ G m_MO_lines [O 8, I a1, I a2] σ1 (fun r2 σ2 => r1 = r2 ∧ Inv (k + 1) σ2))
def SO_take (G : GT) (Inv : Nat → St → Prop) : Prop := ∀ (k : Nat) (σ : St), k < 512 → Inv k σ → ∀ a1 : Int, rng a1 → CJ G m_JS_take [O 0, I a1] σ (fun r1 σ1 => CJ G m_MO_take [O 8, I a1] σ1 (fun r2 σ2 => r1 = r2 ∧ Inv (k + 1) σ2))
def SO_pages (G : GT) (Inv : Nat → St → Prop) : Prop := ∀ (k : Nat) (σ : St), k < 512 → Inv k σ → ∀ a1 : Int, rng a1 → CJ G m_JS_pages [O 0, I a1] σ (fun r1 σ1 => CJ G m_MO_pages [O 8, I a1] σ1 (fun r2 σ2 => r1 = r2 ∧ Inv (k + 1) σ2))
def SO_page (G : GT) (Inv : Nat → St → Prop) : Prop := ∀ (k : Nat) (σ : St), k < 512 → Inv k σ → ∀ a1 a2 : Int, rng a1 → rng a2 → CJ G m_JS_page [O 0, I a1, I a2] σ (fun r1 σ1 => CJ G m_MO_page [O 8, I a1, I a2] σ1 (fun r2 σ2 => r1 = r2 ∧ Inv (k + 1) σ2))
def SO_told (G : GT) (Inv : Nat → St → Prop) : Prop := ∀ (k : Nat) (σ : St), k < 512 → Inv k σ → ∀ a1 : Int, rng a1 → CJ G m_JS_told [O 0, I a1] σ (fun r1 σ1 => CJ G m_MO_told [O 8, I a1] σ1 (fun r2 σ2 => r1 = r2 ∧ Inv (k + 1) σ2))
def SOA (G : GT) (Inv : Nat → St → Prop) : Prop := SO_letter G Inv ∧ SO_ligature G Inv ∧ SO_form G Inv ∧ SO_stretch G Inv ∧ SO_point G Inv ∧ SO_bar G Inv ∧ SO_about G Inv ∧ SO_type G Inv ∧ SO_insert G Inv ∧ SO_remove G Inv ∧ SO_undo G Inv ∧ SO_text G Inv ∧ SO_shape G Inv ∧ SO_words G Inv ∧ SO_line G Inv ∧ SO_near G Inv ∧ SO_plain G Inv ∧ SO_atHand G Inv ∧ SO_piece G Inv ∧ SO_mark G Inv ∧ SO_seen G Inv ∧ SO_place G Inv ∧ SO_witness G Inv ∧ SO_claim G Inv ∧ SO_drop G Inv ∧ SO_check G Inv ∧ SO_best G Inv ∧ SO_lines G Inv ∧ SO_take G Inv ∧ SO_pages G Inv ∧ SO_page G Inv ∧ SO_told G Inv
theorem and31 (v : Int32) : ∃ k : Nat, k < 32 ∧ (v &&& Int32.ofInt 31).toInt = (k : Int) := by
  refine ⟨(v &&& Int32.ofInt 31).toBitVec.toNat, ?_, ?_⟩
  · have h1 : (v &&& Int32.ofInt 31).toBitVec = v.toBitVec &&& 31#32 := rfl
    rw [h1, BitVec.toNat_and]
    exact Nat.lt_of_le_of_lt Nat.and_le_right (by decide)
  · have h1 : (v &&& Int32.ofInt 31).toBitVec = v.toBitVec &&& 31#32 := rfl
    have h2 : (v &&& Int32.ofInt 31).toBitVec.toNat ≤ 31 := by
      rw [h1, BitVec.toNat_and]
      exact Nat.and_le_right
    show (v &&& Int32.ofInt 31).toBitVec.toInt = _
    rw [BitVec.toInt_eq_toNat_of_lt (by omega)]
theorem l_ret {G : GT} {b Ln : Nat} {xs : Nat → Int32} {pc : Nat} {l : List (Nat × Value)} {σ : St} (hd : decode code pc = .ok (.ireturn, 1)) : AL G b Ln xs pc l [.int (Int32.ofInt 1)] σ := by
  intro p e s m below meth c C0 hK hR hAG H locs la hP hS hl
  obtain ⟨hx, hb, hr, hml, hown, hts, hX, hbl, hlocks, hgv⟩ := id C0
  refine va_forget (fun q h => hS.2.2 q h) ?_
  refine W.widen (k := 600000) (n := 7302250) (by decide) (by decide) ?_
  exact lw_ret hx hb hr hlocks hd
theorem law_loop {G : GT} {b Ln : Nat} {xs : Nat → Int32} {Inv : Nat → St → Prop} (hLn : Ln ≤ 3584) (hA : SOA G Inv) : ∀ (n k : Nat) (σ : St), Inv k σ → k ≤ 512 → Ln < 7 * k + 7 * n → AL G b Ln xs 18 [(0, .ref b), (1, .ref (aG G 0)), (2, .ref (aG G 8)), (3, .int (Int32.ofInt (7 * (k : Int))))] [] σ := by
  intro n
  induction n with
  | zero =>
    intro k σ hI hk0 hn
    refine l_iload (q := 19) (dc dl_0 10 rfl) rfl rfl 3 rfl ?_
    refine l_aload (q := 20) (dc dl_0 11 rfl) rfl rfl 0 rfl ?_
    refine l_slen (q := 21) (dc dl_0 12 rfl) rfl ?_
    refine l_bipush (q := 23) (dc dl_0 13 rfl) rfl (by decide) ?_
    refine l_isub (q := 24) (dc dl_0 14 rfl) rfl ?_
    refine l_icmpgt (q := 27) (t := 1152) (dc dl_0 15 rfl) rfl (by decide) ⟨by omega, by omega⟩ ⟨by omega, by omega⟩ (fun _ => ?_) (fun h => absurd h (by omega))
    refine l_iconst (q := 1153) (dc dl_15 34 rfl) rfl ?_
    exact l_ret (dc dl_15 35 rfl)
  | succ n ih =>
    intro k σ hI hk0 hn
    refine l_iload (q := 19) (dc dl_0 10 rfl) rfl rfl 3 rfl ?_
    refine l_aload (q := 20) (dc dl_0 11 rfl) rfl rfl 0 rfl ?_
    refine l_slen (q := 21) (dc dl_0 12 rfl) rfl ?_
    refine l_bipush (q := 23) (dc dl_0 13 rfl) rfl (by decide) ?_
    refine l_isub (q := 24) (dc dl_0 14 rfl) rfl ?_
    refine l_icmpgt (q := 27) (t := 1152) (dc dl_0 15 rfl) rfl (by decide) ⟨by omega, by omega⟩ ⟨by omega, by omega⟩ (fun _ => ?_) (fun h => ?_)
    · refine l_iconst (q := 1153) (dc dl_15 34 rfl) rfl ?_
      exact l_ret (dc dl_15 35 rfl)
    · have hi : 0 ≤ 7 * (k : Int) ∧ 7 * (k : Int) + 7 ≤ Ln := by omega
      have hk : k < 512 := by omega
      have hL : ∀ σ2, Inv (k + 1) σ2 → AL G b Ln xs 1146 [(0, .ref b), (1, .ref (aG G 0)), (2, .ref (aG G 8)), (3, .int (Int32.ofInt (7 * (k : Int))))] [] σ2 := by
        intro σ2 hI2
        refine l_iinc (q := 1149) (k := 3) (dc dl_15 32 rfl) rfl rfl (by decide) rfl ?_
        refine l_goto (q := 18) (dc dl_15 33 rfl) (by decide) ?_
        refine l_loc [1, 2, 3, 0] rfl ?_
        have e1 : 7 * (k : Int) + 7 = 7 * ((k + 1 : Nat) : Int) := by omega
        rw [e1]
        exact ih (k + 1) σ2 hI2 (by omega) (by omega)
      refine l_aload (q := 28) (dc dl_0 16 rfl) rfl rfl 0 rfl ?_
      refine l_iload (q := 29) (dc dl_0 17 rfl) rfl rfl 3 rfl ?_
      refine l_sld (q := 30) (dc dl_0 18 rfl) rfl (by omega) (by omega) ?_
      refine l_bipush (q := 32) (dc dl_0 19 rfl) rfl (by decide) ?_
      refine l_iand (q := 33) (dc dl_0 20 rfl) rfl ?_
      obtain ⟨z, hz, ez⟩ := and31 (Int32.ofInt (xs (7 * (k : Int)).toNat).toInt)
      obtain ⟨h0, h1, h2, h3, h4, h5, h6, h7, h8, h9, h10, h11, h12, h13, h14, h15, h16, h17, h18, h19, h20, h21, h22, h23, h24, h25, h26, h27, h28, h29, h30, h31⟩ := hA
      match z, hz, ez with
      | 0, _, ez => exact l_sw (k := 0) (t := 176) (off := 143) (dc dl_0 21 rfl) ez (by decide) rfl (by decide) (lc_0 hi hLn (h0 k σ hk hI _ (rng_toInt _)) hL)
      | 1, _, ez => exact l_sw (k := 1) (t := 199) (off := 166) (dc dl_0 21 rfl) ez (by decide) rfl (by decide) (lc_1 hi hLn (h1 k σ hk hI _ _ _ _ (rng_toInt _) (rng_toInt _) (rng_toInt _) (by split <;> simp)) hL)
      | 2, _, ez => exact l_sw (k := 2) (t := 268) (off := 235) (dc dl_0 21 rfl) ez (by decide) rfl (by decide) (lc_2 hi hLn (h2 k σ hk hI _ _ _ _ _ _ (rng_toInt _) (rng_toInt _) (rng_toInt _) (rng_toInt _) (rng_toInt _) (rng_toInt _)) hL)
      | 3, _, ez => exact l_sw (k := 3) (t := 343) (off := 310) (dc dl_0 21 rfl) ez (by decide) rfl (by decide) (lc_3 hi hLn (h3 k σ hk hI _ _ _ (rng_toInt _) (rng_toInt _) (rng_toInt _)) hL)
      | 4, _, ez => exact l_sw (k := 4) (t := 386) (off := 353) (dc dl_0 21 rfl) ez (by decide) rfl (by decide) (lc_4 hi hLn (h4 k σ hk hI _ _ (rng_toInt _) (rng_toInt _)) hL)
      | 5, _, ez => exact l_sw (k := 5) (t := 419) (off := 386) (dc dl_0 21 rfl) ez (by decide) rfl (by decide) (lc_5 hi hLn (h5 k σ hk hI _ _ (rng_toInt _) (by split <;> simp)) hL)
      | 6, _, ez => exact l_sw (k := 6) (t := 468) (off := 435) (dc dl_0 21 rfl) ez (by decide) rfl (by decide) (lc_6 hi hLn (h6 k σ hk hI _ _ (rng_toInt _) (rng_toInt _)) hL)
      | 7, _, ez => exact l_sw (k := 7) (t := 501) (off := 468) (dc dl_0 21 rfl) ez (by decide) rfl (by decide) (lc_7 hi hLn (h7 k σ hk hI _ (rng_toInt _)) hL)
      | 8, _, ez => exact l_sw (k := 8) (t := 524) (off := 491) (dc dl_0 21 rfl) ez (by decide) rfl (by decide) (lc_8 hi hLn (h8 k σ hk hI _ _ (rng_toInt _) (rng_toInt _)) hL)
      | 9, _, ez => exact l_sw (k := 9) (t := 557) (off := 524) (dc dl_0 21 rfl) ez (by decide) rfl (by decide) (lc_9 hi hLn (h9 k σ hk hI _ (rng_toInt _)) hL)
      | 10, _, ez => exact l_sw (k := 10) (t := 580) (off := 547) (dc dl_0 21 rfl) ez (by decide) rfl (by decide) (lc_10 hi hLn (h10 k σ hk hI  ) hL)
      | 11, _, ez => exact l_sw (k := 11) (t := 593) (off := 560) (dc dl_0 21 rfl) ez (by decide) rfl (by decide) (lc_11 hi hLn (h11 k σ hk hI _ (rng_toInt _)) hL)
      | 12, _, ez => exact l_sw (k := 12) (t := 616) (off := 583) (dc dl_0 21 rfl) ez (by decide) rfl (by decide) (lc_12 hi hLn (h12 k σ hk hI _ _ (rng_toInt _) (rng_toInt _)) hL)
      | 13, _, ez => exact l_sw (k := 13) (t := 649) (off := 616) (dc dl_0 21 rfl) ez (by decide) rfl (by decide) (lc_13 hi hLn (h13 k σ hk hI  ) hL)
      | 14, _, ez => exact l_sw (k := 14) (t := 662) (off := 629) (dc dl_0 21 rfl) ez (by decide) rfl (by decide) (lc_14 hi hLn (h14 k σ hk hI _ _ _ (rng_toInt _) (rng_toInt _) (rng_toInt _)) hL)
      | 15, _, ez => exact l_sw (k := 15) (t := 705) (off := 672) (dc dl_0 21 rfl) ez (by decide) rfl (by decide) (lc_15 hi hLn (h15 k σ hk hI _ (rng_toInt _)) hL)
      | 16, _, ez => exact l_sw (k := 16) (t := 728) (off := 695) (dc dl_0 21 rfl) ez (by decide) rfl (by decide) (lc_16 hi hLn (h16 k σ hk hI _ _ (rng_toInt _) (rng_toInt _)) hL)
      | 17, _, ez => exact l_sw (k := 17) (t := 761) (off := 728) (dc dl_0 21 rfl) ez (by decide) rfl (by decide) (lc_17 hi hLn (h17 k σ hk hI _ (rng_toInt _)) hL)
      | 18, _, ez => exact l_sw (k := 18) (t := 784) (off := 751) (dc dl_0 21 rfl) ez (by decide) rfl (by decide) (lc_18 hi hLn (h18 k σ hk hI _ _ (rng_toInt _) (rng_toInt _)) hL)
      | 19, _, ez => exact l_sw (k := 19) (t := 817) (off := 784) (dc dl_0 21 rfl) ez (by decide) rfl (by decide) (lc_19 hi hLn (h19 k σ hk hI _ _ (rng_toInt _) (rng_toInt _)) hL)
      | 20, _, ez => exact l_sw (k := 20) (t := 850) (off := 817) (dc dl_0 21 rfl) ez (by decide) rfl (by decide) (lc_20 hi hLn (h20 k σ hk hI _ (rng_toInt _)) hL)
      | 21, _, ez => exact l_sw (k := 21) (t := 873) (off := 840) (dc dl_0 21 rfl) ez (by decide) rfl (by decide) (lc_21 hi hLn (h21 k σ hk hI _ (rng_toInt _)) hL)
      | 22, _, ez => exact l_sw (k := 22) (t := 896) (off := 863) (dc dl_0 21 rfl) ez (by decide) rfl (by decide) (lc_22 hi hLn (h22 k σ hk hI _ (rng_toInt _)) hL)
      | 23, _, ez => exact l_sw (k := 23) (t := 919) (off := 886) (dc dl_0 21 rfl) ez (by decide) rfl (by decide) (lc_23 hi hLn (h23 k σ hk hI _ (rng_toInt _)) hL)
      | 24, _, ez => exact l_sw (k := 24) (t := 942) (off := 909) (dc dl_0 21 rfl) ez (by decide) rfl (by decide) (lc_24 hi hLn (h24 k σ hk hI  ) hL)
      | 25, _, ez => exact l_sw (k := 25) (t := 955) (off := 922) (dc dl_0 21 rfl) ez (by decide) rfl (by decide) (lc_25 hi hLn (h25 k σ hk hI _ _ (rng_toInt _) (rng_toInt _)) hL)
      | 26, _, ez => exact l_sw (k := 26) (t := 988) (off := 955) (dc dl_0 21 rfl) ez (by decide) rfl (by decide) (lc_26 hi hLn (h26 k σ hk hI _ (rng_toInt _)) hL)
      | 27, _, ez => exact l_sw (k := 27) (t := 1011) (off := 978) (dc dl_0 21 rfl) ez (by decide) rfl (by decide) (lc_27 hi hLn (h27 k σ hk hI _ _ (rng_toInt _) (rng_toInt _)) hL)
      | 28, _, ez => exact l_sw (k := 28) (t := 1044) (off := 1011) (dc dl_0 21 rfl) ez (by decide) rfl (by decide) (lc_28 hi hLn (h28 k σ hk hI _ (rng_toInt _)) hL)
      | 29, _, ez => exact l_sw (k := 29) (t := 1067) (off := 1034) (dc dl_0 21 rfl) ez (by decide) rfl (by decide) (lc_29 hi hLn (h29 k σ hk hI _ (rng_toInt _)) hL)
      | 30, _, ez => exact l_sw (k := 30) (t := 1090) (off := 1057) (dc dl_0 21 rfl) ez (by decide) rfl (by decide) (lc_30 hi hLn (h30 k σ hk hI _ _ (rng_toInt _) (rng_toInt _)) hL)
      | 31, _, ez => exact l_sw (k := 31) (t := 1123) (off := 1090) (dc dl_0 21 rfl) ez (by decide) rfl (by decide) (lc_31 hi hLn (h31 k σ hk hI _ (rng_toInt _)) hL)
      | z + 32, hz, _ => exact absurd hz (by omega)
