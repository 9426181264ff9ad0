theorem kc_b_13 : (Int8.ofInt (13)).toInt32 = 13 := by decide
theorem kc_b_14 : (Int8.ofInt (14)).toInt32 = 14 := by decide
theorem kc_b_15 : (Int8.ofInt (15)).toInt32 = 15 := by decide
theorem kc_b_20 : (Int8.ofInt (20)).toInt32 = 20 := by decide
theorem kc_b_30 : (Int8.ofInt (30)).toInt32 = 30 := by decide
theorem kc_b_31 : (Int8.ofInt (31)).toInt32 = 31 := by decide
theorem kc_b_50 : (Int8.ofInt (50)).toInt32 = 50 := by decide
theorem kc_b_89 : (Int8.ofInt (89)).toInt32 = 89 := by decide
theorem kc_b_96 : (Int8.ofInt (96)).toInt32 = 96 := by decide
theorem kc_s_257 : (Int16.ofInt (257)).toInt32 = 257 := by decide
theorem kc_s_258 : (Int16.ofInt (258)).toInt32 = 258 := by decide
theorem kc_s_259 : (Int16.ofInt (259)).toInt32 = 259 := by decide
theorem kc_s_293 : (Int16.ofInt (293)).toInt32 = 293 := by decide
theorem kc_s_800 : (Int16.ofInt (800)).toInt32 = 800 := by decide
theorem kc_s_2051 : (Int16.ofInt (2051)).toInt32 = 2051 := by decide
theorem q_38 : Cond.selects RX12 yX12_builds yX12_builds ∈ WT := kw 38 (by decide +kernel) rfl
theorem q_39 : Cond.selects RX12 yX12_appears yX12_appears ∈ WT := kw 39 (by decide +kernel) rfl
theorem q_40 : Cond.selects RX12 yX12_sits yX12_sits ∈ WT := kw 40 (by decide +kernel) rfl
theorem q_41 : Cond.selects RX12 yX12_allCoins yX12_allCoins ∈ WT := kw 41 (by decide +kernel) rfl
theorem q_42 : Cond.selects RX12 yX12_has yX12_has ∈ WT := kw 42 (by decide +kernel) rfl
theorem q_43 : Cond.selects RX12 yX12_bytesIn yX12_bytesIn ∈ WT := kw 43 (by decide +kernel) rfl
theorem q_44 : Cond.selects RX12 yX12_stops yX12_stops ∈ WT := kw 44 (by decide +kernel) rfl
theorem q_45 : Cond.selects RX12 yX12_four yX12_four ∈ WT := kw 45 (by decide +kernel) rfl
theorem q_46 : Cond.selects RX12 yX12_takesText yX12_takesText ∈ WT := kw 46 (by decide +kernel) rfl
theorem q_47 : Cond.selects RX12 yX12_starts yX12_starts ∈ WT := kw 47 (by decide +kernel) rfl
theorem q_48 : Cond.selects RX12 yX12_scan yX12_scan ∈ WT := kw 48 (by decide +kernel) rfl
theorem q_49 : Cond.selects RX12 yX12_see yX12_see ∈ WT := kw 49 (by decide +kernel) rfl
theorem q_50 : Cond.selects RX12 yX12_setup yX12_setup ∈ WT := kw 50 (by decide +kernel) rfl
theorem q_51 : Cond.selects RX12 yX12_isWord yX12_isWord ∈ WT := kw 51 (by decide +kernel) rfl
theorem q_52 : Cond.selects RX12 yX12_must yX12_must ∈ WT := kw 52 (by decide +kernel) rfl
theorem q_53 : Cond.selects RX12 yX12_goesOn yX12_goesOn ∈ WT := kw 53 (by decide +kernel) rfl
theorem q_54 : Cond.selects RX12 yX12_reads yX12_reads ∈ WT := kw 54 (by decide +kernel) rfl
theorem q_55 : Cond.selects RX12 yX12_sign yX12_sign ∈ WT := kw 55 (by decide +kernel) rfl
theorem q_56 : Cond.selects RX12 yX12_isSign yX12_isSign ∈ WT := kw 56 (by decide +kernel) rfl
theorem q_57 : Cond.selects RX12 yX12_boardText yX12_boardText ∈ WT := kw 57 (by decide +kernel) rfl
theorem q_58 : Cond.selects RX12 yX12_isGood yX12_isGood ∈ WT := kw 58 (by decide +kernel) rfl
theorem q_59 : Cond.selects RX12 yX12_traderText yX12_traderText ∈ WT := kw 59 (by decide +kernel) rfl
theorem q_60 : Cond.selects RX12 yX12_isNameHere yX12_isNameHere ∈ WT := kw 60 (by decide +kernel) rfl
theorem q_61 : Cond.selects RX12 yX12_named yX12_named ∈ WT := kw 61 (by decide +kernel) rfl
theorem q_62 : Cond.selects RX12 yX12_traderNamed yX12_traderNamed ∈ WT := kw 62 (by decide +kernel) rfl
theorem q_63 : Cond.selects RX12 yX12_seatText yX12_seatText ∈ WT := kw 63 (by decide +kernel) rfl
theorem q_64 : Cond.selects RX12 yX12_isSeated yX12_isSeated ∈ WT := kw 64 (by decide +kernel) rfl
theorem q_65 : Cond.selects RX12 yX12_sideText yX12_sideText ∈ WT := kw 65 (by decide +kernel) rfl
theorem q_66 : Cond.selects RX12 yX12_ofBoard yX12_ofBoard ∈ WT := kw 66 (by decide +kernel) rfl
theorem q_67 : Cond.selects RX12 yX12_onSeat yX12_onSeat ∈ WT := kw 67 (by decide +kernel) rfl
theorem q_68 : Cond.selects RX12 yX12_tellsError yX12_tellsError ∈ WT := kw 68 (by decide +kernel) rfl
theorem q_69 : Cond.selects RX12 yX12_goesThrough yX12_goesThrough ∈ WT := kw 69 (by decide +kernel) rfl
theorem q_70 : Cond.selects RX12 yX12_closes yX12_closes ∈ WT := kw 70 (by decide +kernel) rfl
theorem q_71 : Cond.selects RX12 yX12_order yX12_order ∈ WT := kw 71 (by decide +kernel) rfl
theorem q_72 : Cond.selects RX12 yX12_isOrder yX12_isOrder ∈ WT := kw 72 (by decide +kernel) rfl
theorem q_73 : Cond.selects RX12 yX12_againOrder yX12_againOrder ∈ WT := kw 73 (by decide +kernel) rfl
theorem q_74 : Cond.selects RX12 yX12_does yX12_does ∈ WT := kw 74 (by decide +kernel) rfl
theorem q_75 : Cond.selects RX12 yX12_joinText yX12_joinText ∈ WT := kw 75 (by decide +kernel) rfl
theorem q_76 : Cond.selects RX12 yX12_nameText yX12_nameText ∈ WT := kw 76 (by decide +kernel) rfl
theorem q_77 : Cond.selects RX12 yX12_isActive yX12_isActive ∈ WT := kw 77 (by decide +kernel) rfl
theorem q_78 : Cond.selects RX12 yX12_joins yX12_joins ∈ WT := kw 78 (by decide +kernel) rfl
theorem q_79 : Cond.selects RX12 yX12_came yX12_came ∈ WT := kw 79 (by decide +kernel) rfl
theorem q_80 : Cond.selects RX12 yX12_buyText yX12_buyText ∈ WT := kw 80 (by decide +kernel) rfl
theorem q_81 : Cond.selects RX12 yX12_isPosition yX12_isPosition ∈ WT := kw 81 (by decide +kernel) rfl
theorem q_82 : Cond.selects RX12 yX12_againstSeat yX12_againstSeat ∈ WT := kw 82 (by decide +kernel) rfl
theorem q_83 : Cond.selects RX12 yX12_price yX12_price ∈ WT := kw 83 (by decide +kernel) rfl
theorem q_84 : Cond.selects RX12 yX12_height yX12_height ∈ WT := kw 84 (by decide +kernel) rfl
theorem q_85 : Cond.selects RX12 yX12_torqueOf yX12_torqueOf ∈ WT := kw 85 (by decide +kernel) rfl
theorem q_86 : Cond.selects RX12 yX12_tiltBy yX12_tiltBy ∈ WT := kw 86 (by decide +kernel) rfl
theorem q_87 : Cond.selects RX12 yX12_torqueWith yX12_torqueWith ∈ WT := kw 87 (by decide +kernel) rfl
theorem q_88 : Cond.selects RX12 yX12_isTooMuch yX12_isTooMuch ∈ WT := kw 88 (by decide +kernel) rfl
theorem q_89 : Cond.selects RX12 yX12_buys yX12_buys ∈ WT := kw 89 (by decide +kernel) rfl
theorem q_90 : Cond.selects RX12 yX12_moves yX12_moves ∈ WT := kw 90 (by decide +kernel) rfl
theorem q_91 : Cond.selects RX12 yX12_rises yX12_rises ∈ WT := kw 91 (by decide +kernel) rfl
theorem q_92 : Cond.selects RX12 yX12_leaveText yX12_leaveText ∈ WT := kw 92 (by decide +kernel) rfl
theorem q_93 : Cond.selects RX12 yX12_leaves yX12_leaves ∈ WT := kw 93 (by decide +kernel) rfl
theorem q_94 : Cond.selects RX12 yX12_pairText yX12_pairText ∈ WT := kw 94 (by decide +kernel) rfl
theorem q_95 : Cond.selects RX12 yX12_otherName yX12_otherName ∈ WT := kw 95 (by decide +kernel) rfl
theorem q_96 : Cond.selects RX12 yX12_againstSale yX12_againstSale ∈ WT := kw 96 (by decide +kernel) rfl
theorem q_97 : Cond.selects RX12 yX12_unitPrice yX12_unitPrice ∈ WT := kw 97 (by decide +kernel) rfl
theorem q_98 : Cond.selects RX12 yX12_ownHeight yX12_ownHeight ∈ WT := kw 98 (by decide +kernel) rfl
theorem q_99 : Cond.selects RX12 yX12_againstSwap yX12_againstSwap ∈ WT := kw 99 (by decide +kernel) rfl
theorem q_100 : Cond.selects RX12 yX12_torqueSwapped yX12_torqueSwapped ∈ WT := kw 100 (by decide +kernel) rfl
theorem q_101 : Cond.selects RX12 yX12_sells yX12_sells ∈ WT := kw 101 (by decide +kernel) rfl
theorem q_102 : Cond.selects RX12 yX12_swaps yX12_swaps ∈ WT := kw 102 (by decide +kernel) rfl
theorem q_103 : Cond.selects RX12 yX12_wholeText yX12_wholeText ∈ WT := kw 103 (by decide +kernel) rfl
theorem q_104 : Cond.selects RX12 yX12_setsWage yX12_setsWage ∈ WT := kw 104 (by decide +kernel) rfl
theorem q_105 : Cond.selects RX12 yX12_days1 yX12_days1 ∈ WT := kw 105 (by decide +kernel) rfl
theorem q_106 : Cond.selects RX12 yX12_day1 yX12_day1 ∈ WT := kw 106 (by decide +kernel) rfl
theorem q_107 : Cond.selects RX12 yX12_earns yX12_earns ∈ WT := kw 107 (by decide +kernel) rfl
theorem q_108 : Cond.selects RX12 yX12_ages yX12_ages ∈ WT := kw 108 (by decide +kernel) rfl
theorem q_109 : Cond.selects RX12 yX12_records yX12_records ∈ WT := kw 109 (by decide +kernel) rfl
theorem q_110 : Cond.selects RX12 yX12_tips yX12_tips ∈ WT := kw 110 (by decide +kernel) rfl
theorem q_111 : Cond.selects RX12 yX12_keepsPast yX12_keepsPast ∈ WT := kw 111 (by decide +kernel) rfl
theorem q_112 : Cond.selects RX12 yX12_wholeName yX12_wholeName ∈ WT := kw 112 (by decide +kernel) rfl
theorem q_113 : Cond.selects RX12 yX12_noTrader yX12_noTrader ∈ WT := kw 113 (by decide +kernel) rfl
theorem q_114 : Cond.selects RX12 yX12_noSeat yX12_noSeat ∈ WT := kw 114 (by decide +kernel) rfl
theorem q_115 : Cond.selects RX12 yX12_noBoard yX12_noBoard ∈ WT := kw 115 (by decide +kernel) rfl
theorem q_116 : Cond.selects RX12 yX12_noSale yX12_noSale ∈ WT := kw 116 (by decide +kernel) rfl
theorem q_117 : Cond.selects RX12 yX12_noPair yX12_noPair ∈ WT := kw 117 (by decide +kernel) rfl
theorem q_118 : Cond.selects RX12 yX12_noSlot yX12_noSlot ∈ WT := kw 118 (by decide +kernel) rfl
theorem q_119 : Cond.selects RX12 yX12_asked yX12_asked ∈ WT := kw 119 (by decide +kernel) rfl
theorem q_120 : Cond.selects RX12 yX12_richerThan yX12_richerThan ∈ WT := kw 120 (by decide +kernel) rfl
theorem q_121 : Cond.selects RX12 yX12_isRicher yX12_isRicher ∈ WT := kw 121 (by decide +kernel) rfl
theorem q_122 : Cond.selects RX12 yX12_incomeOn yX12_incomeOn ∈ WT := kw 122 (by decide +kernel) rfl
theorem q_123 : Cond.selects RX12 yX12_torqueByDistances yX12_torqueByDistances ∈ WT := kw 123 (by decide +kernel) rfl
theorem q_124 : Cond.selects RX12 yX12_weightOn yX12_weightOn ∈ WT := kw 124 (by decide +kernel) rfl
theorem q_125 : Cond.selects RX12 yX12_wrongSeats yX12_wrongSeats ∈ WT := kw 125 (by decide +kernel) rfl
theorem q_126 : Cond.selects RX12 yX12_ofEvent yX12_ofEvent ∈ WT := kw 126 (by decide +kernel) rfl
theorem q_127 : Cond.selects RX12 yX12_behind yX12_behind ∈ WT := kw 127 (by decide +kernel) rfl
theorem q_128 : Cond.selects RX12 yX12_writes yX12_writes ∈ WT := kw 128 (by decide +kernel) rfl
theorem q_129 : Cond.selects RX12 yX12_writesSeat yX12_writesSeat ∈ WT := kw 129 (by decide +kernel) rfl
theorem q_1664 : Cond.methodLink RX12 48 yX12_builds ∈ WT := kw 1664 (by decide +kernel) rfl
theorem q_1668 : Cond.methodLink RX12 66 yX12_atBoard ∈ WT := kw 1668 (by decide +kernel) rfl
theorem q_1671 : Cond.methodLink RX12 52 yX12_appears ∈ WT := kw 1671 (by decide +kernel) rfl
theorem q_1675 : Cond.methodLink RX12 70 yX12_atTrader ∈ WT := kw 1675 (by decide +kernel) rfl
theorem q_1678 : Cond.methodLink RX12 56 yX12_sits ∈ WT := kw 1678 (by decide +kernel) rfl
theorem q_1682 : Cond.methodLink RX12 73 yX12_atSeat ∈ WT := kw 1682 (by decide +kernel) rfl
theorem q_1685 : Cond.methodLink RX12 59 yX12_allCoins ∈ WT := kw 1685 (by decide +kernel) rfl
theorem q_1689 : Cond.methodLink RX12 76 yX12_has ∈ WT := kw 1689 (by decide +kernel) rfl
theorem q_1792 : Cond.methodLink RX12 158 yX12_bytesIn ∈ WT := kw 1792 (by decide +kernel) rfl
theorem q_1796 : Cond.methodLink RX12 161 yX12_stops ∈ WT := kw 1796 (by decide +kernel) rfl
theorem q_1800 : Cond.methodLink RX12 165 yX12_four ∈ WT := kw 1800 (by decide +kernel) rfl
theorem q_1808 : Cond.methodLink RX12 86 yX12_in ∈ WT := kw 1808 (by decide +kernel) rfl
theorem q_1815 : Cond.methodLink RX12 279 yX12_takesText ∈ WT := kw 1815 (by decide +kernel) rfl
theorem q_1819 : Cond.methodLink RX12 282 yX12_copies ∈ WT := kw 1819 (by decide +kernel) rfl
theorem q_1822 : Cond.methodLink RX12 286 yX12_starts ∈ WT := kw 1822 (by decide +kernel) rfl
theorem q_1826 : Cond.methodLink RX12 215 yX12_scan ∈ WT := kw 1826 (by decide +kernel) rfl
theorem q_1830 : Cond.methodLink RX12 182 yX12_see ∈ WT := kw 1830 (by decide +kernel) rfl
theorem q_1834 : Cond.methodLink RX12 191 yX12_isSmall ∈ WT := kw 1834 (by decide +kernel) rfl
theorem q_1837 : Cond.constantLong RX12 171 97 ∈ WT := kw 1837 (by decide +kernel) rfl
theorem q_1838 : Cond.constantLong RX12 173 122 ∈ WT := kw 1838 (by decide +kernel) rfl
theorem q_1839 : Cond.constantLong RX12 198 32 ∈ WT := kw 1839 (by decide +kernel) rfl
theorem q_1840 : Cond.constantLong RX12 200 96 ∈ WT := kw 1840 (by decide +kernel) rfl
theorem q_1841 : Cond.methodLink RX12 202 yX12_isDigit ∈ WT := kw 1841 (by decide +kernel) rfl
theorem q_1844 : Cond.constantLong RX12 175 48 ∈ WT := kw 1844 (by decide +kernel) rfl
theorem q_1845 : Cond.constantLong RX12 177 57 ∈ WT := kw 1845 (by decide +kernel) rfl
theorem q_1846 : Cond.constant RX12 208 999999 ∈ WT := kw 1846 (by decide +kernel) rfl
theorem q_1847 : Cond.methodLink RX12 289 yX12_setup ∈ WT := kw 1847 (by decide +kernel) rfl
theorem q_1851 : Cond.constantLong RX12 255 437857460 ∈ WT := kw 1851 (by decide +kernel) rfl
theorem q_1852 : Cond.methodLink RX12 246 yX12_isWord ∈ WT := kw 1852 (by decide +kernel) rfl
theorem q_1856 : Cond.methodLink RX12 221 yX12_must ∈ WT := kw 1856 (by decide +kernel) rfl
theorem q_1860 : Cond.methodLink RX12 225 yX12_goesOn ∈ WT := kw 1860 (by decide +kernel) rfl
theorem q_1864 : Cond.methodLink RX12 235 yX12_reads ∈ WT := kw 1864 (by decide +kernel) rfl
theorem q_1868 : Cond.constant RX12 257 99999 ∈ WT := kw 1868 (by decide +kernel) rfl
theorem q_1869 : Cond.methodLink RX12 258 yX12_sign ∈ WT := kw 1869 (by decide +kernel) rfl
theorem q_1873 : Cond.methodLink RX12 218 yX12_isSign ∈ WT := kw 1873 (by decide +kernel) rfl
theorem q_1877 : Cond.constantLong RX12 261 2590276 ∈ WT := kw 1877 (by decide +kernel) rfl
theorem q_1878 : Cond.methodLink RX12 263 yX12_boardText ∈ WT := kw 1878 (by decide +kernel) rfl
theorem q_1882 : Cond.methodLink RX12 228 yX12_isGood ∈ WT := kw 1882 (by decide +kernel) rfl
theorem q_1886 : Cond.constantLong RX12 266 690000050 ∈ WT := kw 1886 (by decide +kernel) rfl
theorem q_1887 : Cond.methodLink RX12 268 yX12_traderText ∈ WT := kw 1887 (by decide +kernel) rfl
theorem q_1891 : Cond.methodLink RX12 238 yX12_isNameHere ∈ WT := kw 1891 (by decide +kernel) rfl
theorem q_1895 : Cond.methodLink RX12 241 yX12_named ∈ WT := kw 1895 (by decide +kernel) rfl
theorem q_1899 : Cond.methodLink RX12 232 yX12_traderNamed ∈ WT := kw 1899 (by decide +kernel) rfl
theorem q_1903 : Cond.methodLink RX12 93 yX12_lesser ∈ WT := kw 1903 (by decide +kernel) rfl
theorem q_1906 : Cond.constantLong RX12 271 627764 ∈ WT := kw 1906 (by decide +kernel) rfl
theorem q_1907 : Cond.methodLink RX12 273 yX12_seatText ∈ WT := kw 1907 (by decide +kernel) rfl
theorem q_1911 : Cond.methodLink RX12 79 yX12_isSeated ∈ WT := kw 1911 (by decide +kernel) rfl
theorem q_1915 : Cond.methodLink RX12 252 yX12_sideText ∈ WT := kw 1915 (by decide +kernel) rfl
theorem q_1919 : Cond.constantLong RX12 244 398548 ∈ WT := kw 1919 (by decide +kernel) rfl
theorem q_1920 : Cond.constantLong RX12 250 19176724 ∈ WT := kw 1920 (by decide +kernel) rfl
theorem q_1921 : Cond.methodLink RX12 83 yX12_ofBoard ∈ WT := kw 1921 (by decide +kernel) rfl
theorem q_1925 : Cond.methodLink RX12 90 yX12_onSeat ∈ WT := kw 1925 (by decide +kernel) rfl
theorem q_1929 : Cond.methodLink RX12 292 yX12_tellsError ∈ WT := kw 1929 (by decide +kernel) rfl
theorem q_1937 : Cond.methodLink RX12 411 yX12_goesThrough ∈ WT := kw 1937 (by decide +kernel) rfl
theorem q_1941 : Cond.methodLink RX12 405 yX12_closes ∈ WT := kw 1941 (by decide +kernel) rfl
theorem q_1945 : Cond.methodLink RX12 408 yX12_order ∈ WT := kw 1945 (by decide +kernel) rfl
theorem q_1949 : Cond.methodLink RX12 392 yX12_isOrder ∈ WT := kw 1949 (by decide +kernel) rfl
theorem q_1953 : Cond.constantLong RX12 298 343342 ∈ WT := kw 1953 (by decide +kernel) rfl
theorem q_1954 : Cond.constantLong RX12 300 2745 ∈ WT := kw 1954 (by decide +kernel) rfl
theorem q_1955 : Cond.constantLong RX12 302 12748485 ∈ WT := kw 1955 (by decide +kernel) rfl
theorem q_1956 : Cond.constantLong RX12 304 628108 ∈ WT := kw 1956 (by decide +kernel) rfl
theorem q_1957 : Cond.constantLong RX12 306 646192 ∈ WT := kw 1957 (by decide +kernel) rfl
theorem q_1958 : Cond.constantLong RX12 308 754917 ∈ WT := kw 1958 (by decide +kernel) rfl
theorem q_1959 : Cond.constantLong RX12 310 132915 ∈ WT := kw 1959 (by decide +kernel) rfl
theorem q_1960 : Cond.constantLong RX12 312 609752116 ∈ WT := kw 1960 (by decide +kernel) rfl
theorem q_1961 : Cond.methodLink RX12 398 yX12_againOrder ∈ WT := kw 1961 (by decide +kernel) rfl
theorem q_1965 : Cond.methodLink RX12 401 yX12_does ∈ WT := kw 1965 (by decide +kernel) rfl
theorem q_1969 : Cond.methodLink RX12 377 yX12_joinText ∈ WT := kw 1969 (by decide +kernel) rfl
theorem q_1973 : Cond.methodLink RX12 328 yX12_nameText ∈ WT := kw 1973 (by decide +kernel) rfl
theorem q_1977 : Cond.methodLink RX12 331 yX12_isActive ∈ WT := kw 1977 (by decide +kernel) rfl
theorem q_1981 : Cond.methodLink RX12 334 yX12_joins ∈ WT := kw 1981 (by decide +kernel) rfl
theorem q_1985 : Cond.methodLink RX12 337 yX12_came ∈ WT := kw 1985 (by decide +kernel) rfl
theorem q_1989 : Cond.methodLink RX12 324 yX12_flag ∈ WT := kw 1989 (by decide +kernel) rfl
theorem q_1992 : Cond.methodLink RX12 380 yX12_buyText ∈ WT := kw 1992 (by decide +kernel) rfl
theorem q_1996 : Cond.methodLink RX12 341 yX12_isPosition ∈ WT := kw 1996 (by decide +kernel) rfl
theorem q_2000 : Cond.methodLink RX12 344 yX12_againstSeat ∈ WT := kw 2000 (by decide +kernel) rfl
theorem q_2004 : Cond.methodLink RX12 142 yX12_price ∈ WT := kw 2004 (by decide +kernel) rfl
theorem q_2008 : Cond.methodLink RX12 109 yX12_bare ∈ WT := kw 2008 (by decide +kernel) rfl
theorem q_2011 : Cond.methodLink RX12 106 yX12_height ∈ WT := kw 2011 (by decide +kernel) rfl
theorem q_2015 : Cond.methodLink RX12 99 yX12_torqueOf ∈ WT := kw 2015 (by decide +kernel) rfl
theorem q_2019 : Cond.methodLink RX12 103 yX12_tiltBy ∈ WT := kw 2019 (by decide +kernel) rfl
theorem q_2023 : Cond.methodLink RX12 96 yX12_greater ∈ WT := kw 2023 (by decide +kernel) rfl
theorem q_2026 : Cond.methodLink RX12 145 yX12_torqueWith ∈ WT := kw 2026 (by decide +kernel) rfl
theorem q_2030 : Cond.methodLink RX12 126 yX12_isTooMuch ∈ WT := kw 2030 (by decide +kernel) rfl
theorem q_2034 : Cond.methodLink RX12 347 yX12_buys ∈ WT := kw 2034 (by decide +kernel) rfl
theorem q_2038 : Cond.methodLink RX12 115 yX12_moves ∈ WT := kw 2038 (by decide +kernel) rfl
theorem q_2042 : Cond.methodLink RX12 118 yX12_rises ∈ WT := kw 2042 (by decide +kernel) rfl
theorem q_2046 : Cond.methodLink RX12 383 yX12_leaveText ∈ WT := kw 2046 (by decide +kernel) rfl
theorem q_2050 : Cond.methodLink RX12 350 yX12_leaves ∈ WT := kw 2050 (by decide +kernel) rfl
theorem q_2054 : Cond.methodLink RX12 386 yX12_pairText ∈ WT := kw 2054 (by decide +kernel) rfl
theorem q_2058 : Cond.methodLink RX12 353 yX12_otherName ∈ WT := kw 2058 (by decide +kernel) rfl
theorem q_2062 : Cond.methodLink RX12 356 yX12_againstSale ∈ WT := kw 2062 (by decide +kernel) rfl
theorem q_2066 : Cond.methodLink RX12 149 yX12_unitPrice ∈ WT := kw 2066 (by decide +kernel) rfl
theorem q_2070 : Cond.methodLink RX12 112 yX12_ownHeight ∈ WT := kw 2070 (by decide +kernel) rfl
theorem q_2074 : Cond.methodLink RX12 359 yX12_againstSwap ∈ WT := kw 2074 (by decide +kernel) rfl
theorem q_2078 : Cond.methodLink RX12 152 yX12_torqueSwapped ∈ WT := kw 2078 (by decide +kernel) rfl
theorem q_2082 : Cond.methodLink RX12 362 yX12_sells ∈ WT := kw 2082 (by decide +kernel) rfl
theorem q_2086 : Cond.methodLink RX12 365 yX12_swaps ∈ WT := kw 2086 (by decide +kernel) rfl
theorem q_2090 : Cond.methodLink RX12 389 yX12_wholeText ∈ WT := kw 2090 (by decide +kernel) rfl
theorem q_2094 : Cond.methodLink RX12 368 yX12_setsWage ∈ WT := kw 2094 (by decide +kernel) rfl
theorem q_2098 : Cond.methodLink RX12 371 yX12_days1 ∈ WT := kw 2098 (by decide +kernel) rfl
theorem q_2102 : Cond.methodLink RX12 139 yX12_day1 ∈ WT := kw 2102 (by decide +kernel) rfl
theorem q_2106 : Cond.methodLink RX12 130 yX12_earns ∈ WT := kw 2106 (by decide +kernel) rfl
theorem q_2110 : Cond.methodLink RX12 133 yX12_ages ∈ WT := kw 2110 (by decide +kernel) rfl
theorem q_2114 : Cond.methodLink RX12 122 yX12_records ∈ WT := kw 2114 (by decide +kernel) rfl
theorem q_2118 : Cond.methodLink RX12 136 yX12_tips ∈ WT := kw 2118 (by decide +kernel) rfl
theorem q_2122 : Cond.methodLink RX12 414 yX12_keepsPast ∈ WT := kw 2122 (by decide +kernel) rfl
theorem q_2138 : Cond.constantLong RX12 420 99 ∈ WT := kw 2138 (by decide +kernel) rfl
theorem q_2139 : Cond.constantLong RX12 422 9999 ∈ WT := kw 2139 (by decide +kernel) rfl
theorem q_2140 : Cond.methodLink RX12 424 yX12_wholeName ∈ WT := kw 2140 (by decide +kernel) rfl
theorem q_2148 : Cond.methodLink RX12 427 yX12_noTrader ∈ WT := kw 2148 (by decide +kernel) rfl
theorem q_2152 : Cond.methodLink RX12 430 yX12_noSeat ∈ WT := kw 2152 (by decide +kernel) rfl
theorem q_2156 : Cond.methodLink RX12 417 yX12_noBoard ∈ WT := kw 2156 (by decide +kernel) rfl
theorem q_2168 : Cond.methodLink RX12 435 yX12_noSale ∈ WT := kw 2168 (by decide +kernel) rfl
theorem q_2172 : Cond.constantLong RX12 433 50 ∈ WT := kw 2172 (by decide +kernel) rfl
theorem q_2177 : Cond.methodLink RX12 439 yX12_noPair ∈ WT := kw 2177 (by decide +kernel) rfl
theorem q_2185 : Cond.constantLong RX12 442 20 ∈ WT := kw 2185 (by decide +kernel) rfl
theorem q_2190 : Cond.constantLong RX12 444 30 ∈ WT := kw 2190 (by decide +kernel) rfl
theorem q_2203 : Cond.methodLink RX12 446 yX12_noSlot ∈ WT := kw 2203 (by decide +kernel) rfl
theorem q_2283 : Cond.methodLink RX12 452 yX12_letterOf ∈ WT := kw 2283 (by decide +kernel) rfl
theorem q_2286 : Cond.methodLink RX12 449 yX12_lettersOf ∈ WT := kw 2286 (by decide +kernel) rfl
theorem q_2293 : Cond.methodLink RX12 455 yX12_asked ∈ WT := kw 2293 (by decide +kernel) rfl
theorem q_2325 : Cond.methodLink RX12 461 yX12_richerThan ∈ WT := kw 2325 (by decide +kernel) rfl
theorem q_2329 : Cond.methodLink RX12 458 yX12_isRicher ∈ WT := kw 2329 (by decide +kernel) rfl
theorem q_2353 : Cond.methodLink RX12 464 yX12_incomeOn ∈ WT := kw 2353 (by decide +kernel) rfl
theorem q_2381 : Cond.methodLink RX12 470 yX12_torqueByDistances ∈ WT := kw 2381 (by decide +kernel) rfl
theorem q_2385 : Cond.methodLink RX12 467 yX12_weightOn ∈ WT := kw 2385 (by decide +kernel) rfl
theorem q_2389 : Cond.methodLink RX12 473 yX12_wrongSeats ∈ WT := kw 2389 (by decide +kernel) rfl
theorem q_2397 : Cond.methodLink RX12 476 yX12_ofEvent ∈ WT := kw 2397 (by decide +kernel) rfl
theorem q_2413 : Cond.constantLong RX12 479 100 ∈ WT := kw 2413 (by decide +kernel) rfl
theorem q_2414 : Cond.methodLink RX12 481 yX12_behind ∈ WT := kw 2414 (by decide +kernel) rfl
theorem q_2434 : Cond.methodLink RX12 487 yX12_writes ∈ WT := kw 2434 (by decide +kernel) rfl
theorem q_2438 : Cond.methodLink RX12 490 yX12_writesSeat ∈ WT := kw 2438 (by decide +kernel) rfl
theorem inX12 : ∀ w ∈ u_ws RX12 TX12 30, w ∈ WT := by
  intro w hw
  have h9 : u_ws RX12 TX12 30 = [1723, 1725, 1727, 1729, 1731, 1733, 1735, 1737, 1739, 1741, 1743, 1745, 1747, 1749, 1751, 1753, 1755, 1757, 1759, 1761, 1763, 1765, 1767, 1769, 1771, 1773, 1775, 1777, 1779, 1781].filterMap (fun i => lw_tbl[i]?) := by decide +kernel
  have h8 : (u_ws RX12 TX12 30).all goodWord = true := by decide +kernel
  have h7 := List.all_eq_true.mp h8 w hw
  rw [h9] at hw
  obtain ⟨i, -, hi⟩ := List.mem_filterMap.mp hw
  exact kw i hi h7
section kInst
variable {β : Type} {p : Program} {l : Launch} {e : Env} {R : Room} {s : State} {m : MethodId} {args : Array Value} {below : List Frame} {meth : Method} {c : Code} {cc : ByteArray} {nL : Nat} {g : kG} {dep : Nat} {Q : β → State → Prop} {k n : Nat} {o : Option β} {pc : Nat} {lv : List (Nat × Value)} {st : List Value} {M : kMem}
theorem p_X12_155 (q : Nat) (hX : Cok (p, l, e, R, s, m, args, below, meth, c, cc, nL, RX12, g, dep)) {a : Nat} {v : Int32} (d : decode cc pc = .ok (.putfield 155, 3)) (e9 : pc + 3 = q) (kk : GG (p, l, e, R, s, m, args, below, meth, c, cc, nL, RX12, g, dep) Q k n o q lv st (ksI M a 10 v)) : GG (p, l, e, R, s, m, args, below, meth, c, cc, nL, RX12, g, dep) Q k n (kg (kt M a 12) o) pc lv (.int v :: .ref a :: st) M := g_putI q hX (ci := 12) (f := 10) (i := 155) (C := RX12) (T := TX12) (N := 30) rfl (Nat.le_of_ble_eq_true rfl) inX12 (Nat.le_of_ble_eq_true rfl) (kw 1703 (by decide +kernel) rfl) tyX12_ok nmX12 rfl rfl (by decide +kernel) rfl d e9 kk
theorem p_X12_168 (q : Nat) (hX : Cok (p, l, e, R, s, m, args, below, meth, c, cc, nL, RX12, g, dep)) {a : Nat} {v : Int32} (d : decode cc pc = .ok (.putfield 168, 3)) (e9 : pc + 3 = q) (kk : GG (p, l, e, R, s, m, args, below, meth, c, cc, nL, RX12, g, dep) Q k n o q lv st (ksI M a 11 v)) : GG (p, l, e, R, s, m, args, below, meth, c, cc, nL, RX12, g, dep) Q k n (kg (kt M a 12) o) pc lv (.int v :: .ref a :: st) M := g_putI q hX (ci := 12) (f := 11) (i := 168) (C := RX12) (T := TX12) (N := 30) rfl (Nat.le_of_ble_eq_true rfl) inX12 (Nat.le_of_ble_eq_true rfl) (kw 1704 (by decide +kernel) rfl) tyX12_ok nmX12 rfl rfl (by decide +kernel) rfl d e9 kk
theorem p_X12_179 (q : Nat) (hX : Cok (p, l, e, R, s, m, args, below, meth, c, cc, nL, RX12, g, dep)) {a : Nat} {v : Int32} (d : decode cc pc = .ok (.putfield 179, 3)) (e9 : pc + 3 = q) (kk : GG (p, l, e, R, s, m, args, below, meth, c, cc, nL, RX12, g, dep) Q k n o q lv st (ksI M a 12 v)) : GG (p, l, e, R, s, m, args, below, meth, c, cc, nL, RX12, g, dep) Q k n (kg (kt M a 12) o) pc lv (.int v :: .ref a :: st) M := g_putI q hX (ci := 12) (f := 12) (i := 179) (C := RX12) (T := TX12) (N := 30) rfl (Nat.le_of_ble_eq_true rfl) inX12 (Nat.le_of_ble_eq_true rfl) (kw 1705 (by decide +kernel) rfl) tyX12_ok nmX12 rfl rfl (by decide +kernel) rfl d e9 kk
theorem p_X12_185 (q : Nat) (hX : Cok (p, l, e, R, s, m, args, below, meth, c, cc, nL, RX12, g, dep)) {a : Nat} {v : Int32} (d : decode cc pc = .ok (.putfield 185, 3)) (e9 : pc + 3 = q) (kk : GG (p, l, e, R, s, m, args, below, meth, c, cc, nL, RX12, g, dep) Q k n o q lv st (ksI M a 13 v)) : GG (p, l, e, R, s, m, args, below, meth, c, cc, nL, RX12, g, dep) Q k n (kg (kt M a 12) o) pc lv (.int v :: .ref a :: st) M := g_putI q hX (ci := 12) (f := 13) (i := 185) (C := RX12) (T := TX12) (N := 30) rfl (Nat.le_of_ble_eq_true rfl) inX12 (Nat.le_of_ble_eq_true rfl) (kw 1706 (by decide +kernel) rfl) tyX12_ok nmX12 rfl rfl (by decide +kernel) rfl d e9 kk
theorem p_X12_188 (q : Nat) (hX : Cok (p, l, e, R, s, m, args, below, meth, c, cc, nL, RX12, g, dep)) {a : Nat} {v : Int32} (d : decode cc pc = .ok (.putfield 188, 3)) (e9 : pc + 3 = q) (kk : GG (p, l, e, R, s, m, args, below, meth, c, cc, nL, RX12, g, dep) Q k n o q lv st (ksI M a 14 v)) : GG (p, l, e, R, s, m, args, below, meth, c, cc, nL, RX12, g, dep) Q k n (kg (kt M a 12) o) pc lv (.int v :: .ref a :: st) M := g_putI q hX (ci := 12) (f := 14) (i := 188) (C := RX12) (T := TX12) (N := 30) rfl (Nat.le_of_ble_eq_true rfl) inX12 (Nat.le_of_ble_eq_true rfl) (kw 1707 (by decide +kernel) rfl) tyX12_ok nmX12 rfl rfl (by decide +kernel) rfl d e9 kk
theorem p_X12_194 (q : Nat) (hX : Cok (p, l, e, R, s, m, args, below, meth, c, cc, nL, RX12, g, dep)) {a : Nat} {v : Int64} (d : decode cc pc = .ok (.putfield 194, 3)) (e9 : pc + 3 = q) (kk : GG (p, l, e, R, s, m, args, below, meth, c, cc, nL, RX12, g, dep) Q k n o q lv st (ksL M a 20 v)) : GG (p, l, e, R, s, m, args, below, meth, c, cc, nL, RX12, g, dep) Q k n (kg (kt M a 12) o) pc lv (.long v :: .ref a :: st) M := g_putL q hX (ci := 12) (f := 20) (i := 194) (C := RX12) (T := TX12) (N := 30) rfl (Nat.le_of_ble_eq_true rfl) inX12 (Nat.le_of_ble_eq_true rfl) (kw 1713 (by decide +kernel) rfl) tyX12_ok nmX12 rfl rfl (by decide +kernel) rfl d e9 kk
theorem p_X12_205 (q : Nat) (hX : Cok (p, l, e, R, s, m, args, below, meth, c, cc, nL, RX12, g, dep)) {a : Nat} {v : Int32} (d : decode cc pc = .ok (.putfield 205, 3)) (e9 : pc + 3 = q) (kk : GG (p, l, e, R, s, m, args, below, meth, c, cc, nL, RX12, g, dep) Q k n o q lv st (ksI M a 15 v)) : GG (p, l, e, R, s, m, args, below, meth, c, cc, nL, RX12, g, dep) Q k n (kg (kt M a 12) o) pc lv (.int v :: .ref a :: st) M := g_putI q hX (ci := 12) (f := 15) (i := 205) (C := RX12) (T := TX12) (N := 30) rfl (Nat.le_of_ble_eq_true rfl) inX12 (Nat.le_of_ble_eq_true rfl) (kw 1708 (by decide +kernel) rfl) tyX12_ok nmX12 rfl rfl (by decide +kernel) rfl d e9 kk
theorem p_X12_209 (q : Nat) (hX : Cok (p, l, e, R, s, m, args, below, meth, c, cc, nL, RX12, g, dep)) {a : Nat} {v : Int32} (d : decode cc pc = .ok (.putfield 209, 3)) (e9 : pc + 3 = q) (kk : GG (p, l, e, R, s, m, args, below, meth, c, cc, nL, RX12, g, dep) Q k n o q lv st (ksI M a 16 v)) : GG (p, l, e, R, s, m, args, below, meth, c, cc, nL, RX12, g, dep) Q k n (kg (kt M a 12) o) pc lv (.int v :: .ref a :: st) M := g_putI q hX (ci := 12) (f := 16) (i := 209) (C := RX12) (T := TX12) (N := 30) rfl (Nat.le_of_ble_eq_true rfl) inX12 (Nat.le_of_ble_eq_true rfl) (kw 1709 (by decide +kernel) rfl) tyX12_ok nmX12 rfl rfl (by decide +kernel) rfl d e9 kk
theorem p_X12_212 (q : Nat) (hX : Cok (p, l, e, R, s, m, args, below, meth, c, cc, nL, RX12, g, dep)) {a : Nat} {v : Int32} (d : decode cc pc = .ok (.putfield 212, 3)) (e9 : pc + 3 = q) (kk : GG (p, l, e, R, s, m, args, below, meth, c, cc, nL, RX12, g, dep) Q k n o q lv st (ksI M a 17 v)) : GG (p, l, e, R, s, m, args, below, meth, c, cc, nL, RX12, g, dep) Q k n (kg (kt M a 12) o) pc lv (.int v :: .ref a :: st) M := g_putI q hX (ci := 12) (f := 17) (i := 212) (C := RX12) (T := TX12) (N := 30) rfl (Nat.le_of_ble_eq_true rfl) inX12 (Nat.le_of_ble_eq_true rfl) (kw 1710 (by decide +kernel) rfl) tyX12_ok nmX12 rfl rfl (by decide +kernel) rfl d e9 kk
theorem p_X12_276 (q : Nat) (hX : Cok (p, l, e, R, s, m, args, below, meth, c, cc, nL, RX12, g, dep)) {a : Nat} {v : Int32} (d : decode cc pc = .ok (.putfield 276, 3)) (e9 : pc + 3 = q) (kk : GG (p, l, e, R, s, m, args, below, meth, c, cc, nL, RX12, g, dep) Q k n o q lv st (ksI M a 18 v)) : GG (p, l, e, R, s, m, args, below, meth, c, cc, nL, RX12, g, dep) Q k n (kg (kt M a 12) o) pc lv (.int v :: .ref a :: st) M := g_putI q hX (ci := 12) (f := 18) (i := 276) (C := RX12) (T := TX12) (N := 30) rfl (Nat.le_of_ble_eq_true rfl) inX12 (Nat.le_of_ble_eq_true rfl) (kw 1711 (by decide +kernel) rfl) tyX12_ok nmX12 rfl rfl (by decide +kernel) rfl d e9 kk
theorem p_X12_295 (q : Nat) (hX : Cok (p, l, e, R, s, m, args, below, meth, c, cc, nL, RX12, g, dep)) {a : Nat} {v : Int32} (d : decode cc pc = .ok (.putfield 295, 3)) (e9 : pc + 3 = q) (kk : GG (p, l, e, R, s, m, args, below, meth, c, cc, nL, RX12, g, dep) Q k n o q lv st (ksI M a 5 v)) : GG (p, l, e, R, s, m, args, below, meth, c, cc, nL, RX12, g, dep) Q k n (kg (kt M a 12) o) pc lv (.int v :: .ref a :: st) M := g_putI q hX (ci := 12) (f := 5) (i := 295) (C := RX12) (T := TX12) (N := 30) rfl (Nat.le_of_ble_eq_true rfl) inX12 (Nat.le_of_ble_eq_true rfl) (kw 1698 (by decide +kernel) rfl) tyX12_ok nmX12 rfl rfl (by decide +kernel) rfl d e9 kk
theorem p_X12_314 (q : Nat) (hX : Cok (p, l, e, R, s, m, args, below, meth, c, cc, nL, RX12, g, dep)) {a : Nat} {v : Int32} (d : decode cc pc = .ok (.putfield 314, 3)) (e9 : pc + 3 = q) (kk : GG (p, l, e, R, s, m, args, below, meth, c, cc, nL, RX12, g, dep) Q k n o q lv st (ksI M a 21 v)) : GG (p, l, e, R, s, m, args, below, meth, c, cc, nL, RX12, g, dep) Q k n (kg (kt M a 12 && (v == 0 || v == 1)) o) pc lv (.int v :: .ref a :: st) M := g_putZ q hX (ci := 12) (f := 21) (i := 314) (C := RX12) (T := TX12) (N := 30) rfl (Nat.le_of_ble_eq_true rfl) inX12 (Nat.le_of_ble_eq_true rfl) (kw 1714 (by decide +kernel) rfl) tyX12_ok nmX12 rfl rfl (by decide +kernel) rfl d e9 kk
theorem p_X12_318 (q : Nat) (hX : Cok (p, l, e, R, s, m, args, below, meth, c, cc, nL, RX12, g, dep)) {a : Nat} {v : Int32} (d : decode cc pc = .ok (.putfield 318, 3)) (e9 : pc + 3 = q) (kk : GG (p, l, e, R, s, m, args, below, meth, c, cc, nL, RX12, g, dep) Q k n o q lv st (ksI M a 22 v)) : GG (p, l, e, R, s, m, args, below, meth, c, cc, nL, RX12, g, dep) Q k n (kg (kt M a 12 && (v == 0 || v == 1)) o) pc lv (.int v :: .ref a :: st) M := g_putZ q hX (ci := 12) (f := 22) (i := 318) (C := RX12) (T := TX12) (N := 30) rfl (Nat.le_of_ble_eq_true rfl) inX12 (Nat.le_of_ble_eq_true rfl) (kw 1715 (by decide +kernel) rfl) tyX12_ok nmX12 rfl rfl (by decide +kernel) rfl d e9 kk
theorem p_X12_321 (q : Nat) (hX : Cok (p, l, e, R, s, m, args, below, meth, c, cc, nL, RX12, g, dep)) {a : Nat} {v : Int32} (d : decode cc pc = .ok (.putfield 321, 3)) (e9 : pc + 3 = q) (kk : GG (p, l, e, R, s, m, args, below, meth, c, cc, nL, RX12, g, dep) Q k n o q lv st (ksI M a 25 v)) : GG (p, l, e, R, s, m, args, below, meth, c, cc, nL, RX12, g, dep) Q k n (kg (kt M a 12) o) pc lv (.int v :: .ref a :: st) M := g_putI q hX (ci := 12) (f := 25) (i := 321) (C := RX12) (T := TX12) (N := 30) rfl (Nat.le_of_ble_eq_true rfl) inX12 (Nat.le_of_ble_eq_true rfl) (kw 1718 (by decide +kernel) rfl) tyX12_ok nmX12 rfl rfl (by decide +kernel) rfl d e9 kk
theorem p_X12_35 (q : Nat) (hX : Cok (p, l, e, R, s, m, args, below, meth, c, cc, nL, RX12, g, dep)) {a : Nat} {v : Int32} (d : decode cc pc = .ok (.putfield 35, 3)) (e9 : pc + 3 = q) (kk : GG (p, l, e, R, s, m, args, below, meth, c, cc, nL, RX12, g, dep) Q k n o q lv st (ksI M a 19 v)) : GG (p, l, e, R, s, m, args, below, meth, c, cc, nL, RX12, g, dep) Q k n (kg (kt M a 12) o) pc lv (.int v :: .ref a :: st) M := g_putI q hX (ci := 12) (f := 19) (i := 35) (C := RX12) (T := TX12) (N := 30) rfl (Nat.le_of_ble_eq_true rfl) inX12 (Nat.le_of_ble_eq_true rfl) (kw 1712 (by decide +kernel) rfl) tyX12_ok nmX12 rfl rfl (by decide +kernel) rfl d e9 kk
theorem p_X12_374 (q : Nat) (hX : Cok (p, l, e, R, s, m, args, below, meth, c, cc, nL, RX12, g, dep)) {a : Nat} {v : Int32} (d : decode cc pc = .ok (.putfield 374, 3)) (e9 : pc + 3 = q) (kk : GG (p, l, e, R, s, m, args, below, meth, c, cc, nL, RX12, g, dep) Q k n o q lv st (ksI M a 24 v)) : GG (p, l, e, R, s, m, args, below, meth, c, cc, nL, RX12, g, dep) Q k n (kg (kt M a 12) o) pc lv (.int v :: .ref a :: st) M := g_putI q hX (ci := 12) (f := 24) (i := 374) (C := RX12) (T := TX12) (N := 30) rfl (Nat.le_of_ble_eq_true rfl) inX12 (Nat.le_of_ble_eq_true rfl) (kw 1717 (by decide +kernel) rfl) tyX12_ok nmX12 rfl rfl (by decide +kernel) rfl d e9 kk
theorem p_X12_395 (q : Nat) (hX : Cok (p, l, e, R, s, m, args, below, meth, c, cc, nL, RX12, g, dep)) {a : Nat} {v : Int32} (d : decode cc pc = .ok (.putfield 395, 3)) (e9 : pc + 3 = q) (kk : GG (p, l, e, R, s, m, args, below, meth, c, cc, nL, RX12, g, dep) Q k n o q lv st (ksI M a 23 v)) : GG (p, l, e, R, s, m, args, below, meth, c, cc, nL, RX12, g, dep) Q k n (kg (kt M a 12) o) pc lv (.int v :: .ref a :: st) M := g_putI q hX (ci := 12) (f := 23) (i := 395) (C := RX12) (T := TX12) (N := 30) rfl (Nat.le_of_ble_eq_true rfl) inX12 (Nat.le_of_ble_eq_true rfl) (kw 1716 (by decide +kernel) rfl) tyX12_ok nmX12 rfl rfl (by decide +kernel) rfl d e9 kk
theorem p_X12_484 (q : Nat) (hX : Cok (p, l, e, R, s, m, args, below, meth, c, cc, nL, RX12, g, dep)) {a : Nat} {v : Int32} (d : decode cc pc = .ok (.putfield 484, 3)) (e9 : pc + 3 = q) (kk : GG (p, l, e, R, s, m, args, below, meth, c, cc, nL, RX12, g, dep) Q k n o q lv st (ksI M a 29 v)) : GG (p, l, e, R, s, m, args, below, meth, c, cc, nL, RX12, g, dep) Q k n (kg (kt M a 12) o) pc lv (.int v :: .ref a :: st) M := g_putI q hX (ci := 12) (f := 29) (i := 484) (C := RX12) (T := TX12) (N := 30) rfl (Nat.le_of_ble_eq_true rfl) inX12 (Nat.le_of_ble_eq_true rfl) (kw 1722 (by decide +kernel) rfl) tyX12_ok nmX12 rfl rfl (by decide +kernel) rfl d e9 kk
theorem p_X12_63 (q : Nat) (hX : Cok (p, l, e, R, s, m, args, below, meth, c, cc, nL, RX12, g, dep)) {a : Nat} {v : Int32} (d : decode cc pc = .ok (.putfield 63, 3)) (e9 : pc + 3 = q) (kk : GG (p, l, e, R, s, m, args, below, meth, c, cc, nL, RX12, g, dep) Q k n o q lv st (ksI M a 6 v)) : GG (p, l, e, R, s, m, args, below, meth, c, cc, nL, RX12, g, dep) Q k n (kg (kt M a 12) o) pc lv (.int v :: .ref a :: st) M := g_putI q hX (ci := 12) (f := 6) (i := 63) (C := RX12) (T := TX12) (N := 30) rfl (Nat.le_of_ble_eq_true rfl) inX12 (Nat.le_of_ble_eq_true rfl) (kw 1699 (by decide +kernel) rfl) tyX12_ok nmX12 rfl rfl (by decide +kernel) rfl d e9 kk
theorem r_X12_13 (q : Nat) (hX : Cok (p, l, e, R, s, m, args, below, meth, c, cc, nL, RX12, g, dep)) {a : Nat} (d : decode cc pc = .ok (.getfield 13, 3)) (e9 : pc + 3 = q) (kk : GG (p, l, e, R, s, m, args, below, meth, c, cc, nL, RX12, g, dep) Q k n o q lv (.ref (kR M a 1) :: st) M) : GG (p, l, e, R, s, m, args, below, meth, c, cc, nL, RX12, g, dep) Q k n (kg (kt M a 12) o) pc lv (.ref a :: st) M := g_getR q hX (ci := 12) (f := 1) (i := 13) (C := RX12) (T := TX12) (N := 30) rfl (Nat.le_of_ble_eq_true rfl) inX12 (Nat.le_of_ble_eq_true rfl) (kw 1694 (by decide +kernel) rfl) rfl d e9 kk
theorem r_X12_155 (q : Nat) (hX : Cok (p, l, e, R, s, m, args, below, meth, c, cc, nL, RX12, g, dep)) {a : Nat} (d : decode cc pc = .ok (.getfield 155, 3)) (e9 : pc + 3 = q) (kk : GG (p, l, e, R, s, m, args, below, meth, c, cc, nL, RX12, g, dep) Q k n o q lv (.int (kI M a 10) :: st) M) : GG (p, l, e, R, s, m, args, below, meth, c, cc, nL, RX12, g, dep) Q k n (kg (kt M a 12) o) pc lv (.ref a :: st) M := g_getI q hX (ci := 12) (f := 10) (i := 155) (C := RX12) (T := TX12) (N := 30) rfl (Nat.le_of_ble_eq_true rfl) inX12 (Nat.le_of_ble_eq_true rfl) (kw 1703 (by decide +kernel) rfl) rfl d e9 kk
theorem r_X12_16 (q : Nat) (hX : Cok (p, l, e, R, s, m, args, below, meth, c, cc, nL, RX12, g, dep)) {a : Nat} (d : decode cc pc = .ok (.getfield 16, 3)) (e9 : pc + 3 = q) (kk : GG (p, l, e, R, s, m, args, below, meth, c, cc, nL, RX12, g, dep) Q k n o q lv (.ref (kR M a 2) :: st) M) : GG (p, l, e, R, s, m, args, below, meth, c, cc, nL, RX12, g, dep) Q k n (kg (kt M a 12) o) pc lv (.ref a :: st) M := g_getR q hX (ci := 12) (f := 2) (i := 16) (C := RX12) (T := TX12) (N := 30) rfl (Nat.le_of_ble_eq_true rfl) inX12 (Nat.le_of_ble_eq_true rfl) (kw 1695 (by decide +kernel) rfl) rfl d e9 kk
theorem r_X12_168 (q : Nat) (hX : Cok (p, l, e, R, s, m, args, below, meth, c, cc, nL, RX12, g, dep)) {a : Nat} (d : decode cc pc = .ok (.getfield 168, 3)) (e9 : pc + 3 = q) (kk : GG (p, l, e, R, s, m, args, below, meth, c, cc, nL, RX12, g, dep) Q k n o q lv (.int (kI M a 11) :: st) M) : GG (p, l, e, R, s, m, args, below, meth, c, cc, nL, RX12, g, dep) Q k n (kg (kt M a 12) o) pc lv (.ref a :: st) M := g_getI q hX (ci := 12) (f := 11) (i := 168) (C := RX12) (T := TX12) (N := 30) rfl (Nat.le_of_ble_eq_true rfl) inX12 (Nat.le_of_ble_eq_true rfl) (kw 1704 (by decide +kernel) rfl) rfl d e9 kk
theorem r_X12_179 (q : Nat) (hX : Cok (p, l, e, R, s, m, args, below, meth, c, cc, nL, RX12, g, dep)) {a : Nat} (d : decode cc pc = .ok (.getfield 179, 3)) (e9 : pc + 3 = q) (kk : GG (p, l, e, R, s, m, args, below, meth, c, cc, nL, RX12, g, dep) Q k n o q lv (.int (kI M a 12) :: st) M) : GG (p, l, e, R, s, m, args, below, meth, c, cc, nL, RX12, g, dep) Q k n (kg (kt M a 12) o) pc lv (.ref a :: st) M := g_getI q hX (ci := 12) (f := 12) (i := 179) (C := RX12) (T := TX12) (N := 30) rfl (Nat.le_of_ble_eq_true rfl) inX12 (Nat.le_of_ble_eq_true rfl) (kw 1705 (by decide +kernel) rfl) rfl d e9 kk
theorem r_X12_185 (q : Nat) (hX : Cok (p, l, e, R, s, m, args, below, meth, c, cc, nL, RX12, g, dep)) {a : Nat} (d : decode cc pc = .ok (.getfield 185, 3)) (e9 : pc + 3 = q) (kk : GG (p, l, e, R, s, m, args, below, meth, c, cc, nL, RX12, g, dep) Q k n o q lv (.int (kI M a 13) :: st) M) : GG (p, l, e, R, s, m, args, below, meth, c, cc, nL, RX12, g, dep) Q k n (kg (kt M a 12) o) pc lv (.ref a :: st) M := g_getI q hX (ci := 12) (f := 13) (i := 185) (C := RX12) (T := TX12) (N := 30) rfl (Nat.le_of_ble_eq_true rfl) inX12 (Nat.le_of_ble_eq_true rfl) (kw 1706 (by decide +kernel) rfl) rfl d e9 kk
theorem r_X12_188 (q : Nat) (hX : Cok (p, l, e, R, s, m, args, below, meth, c, cc, nL, RX12, g, dep)) {a : Nat} (d : decode cc pc = .ok (.getfield 188, 3)) (e9 : pc + 3 = q) (kk : GG (p, l, e, R, s, m, args, below, meth, c, cc, nL, RX12, g, dep) Q k n o q lv (.int (kI M a 14) :: st) M) : GG (p, l, e, R, s, m, args, below, meth, c, cc, nL, RX12, g, dep) Q k n (kg (kt M a 12) o) pc lv (.ref a :: st) M := g_getI q hX (ci := 12) (f := 14) (i := 188) (C := RX12) (T := TX12) (N := 30) rfl (Nat.le_of_ble_eq_true rfl) inX12 (Nat.le_of_ble_eq_true rfl) (kw 1707 (by decide +kernel) rfl) rfl d e9 kk
theorem r_X12_19 (q : Nat) (hX : Cok (p, l, e, R, s, m, args, below, meth, c, cc, nL, RX12, g, dep)) {a : Nat} (d : decode cc pc = .ok (.getfield 19, 3)) (e9 : pc + 3 = q) (kk : GG (p, l, e, R, s, m, args, below, meth, c, cc, nL, RX12, g, dep) Q k n o q lv (.ref (kR M a 3) :: st) M) : GG (p, l, e, R, s, m, args, below, meth, c, cc, nL, RX12, g, dep) Q k n (kg (kt M a 12) o) pc lv (.ref a :: st) M := g_getR q hX (ci := 12) (f := 3) (i := 19) (C := RX12) (T := TX12) (N := 30) rfl (Nat.le_of_ble_eq_true rfl) inX12 (Nat.le_of_ble_eq_true rfl) (kw 1696 (by decide +kernel) rfl) rfl d e9 kk
theorem r_X12_194 (q : Nat) (hX : Cok (p, l, e, R, s, m, args, below, meth, c, cc, nL, RX12, g, dep)) {a : Nat} (d : decode cc pc = .ok (.getfield 194, 3)) (e9 : pc + 3 = q) (kk : GG (p, l, e, R, s, m, args, below, meth, c, cc, nL, RX12, g, dep) Q k n o q lv (.long (kL M a 20) :: st) M) : GG (p, l, e, R, s, m, args, below, meth, c, cc, nL, RX12, g, dep) Q k n (kg (kt M a 12) o) pc lv (.ref a :: st) M := g_getL q hX (ci := 12) (f := 20) (i := 194) (C := RX12) (T := TX12) (N := 30) rfl (Nat.le_of_ble_eq_true rfl) inX12 (Nat.le_of_ble_eq_true rfl) (kw 1713 (by decide +kernel) rfl) rfl d e9 kk
theorem r_X12_205 (q : Nat) (hX : Cok (p, l, e, R, s, m, args, below, meth, c, cc, nL, RX12, g, dep)) {a : Nat} (d : decode cc pc = .ok (.getfield 205, 3)) (e9 : pc + 3 = q) (kk : GG (p, l, e, R, s, m, args, below, meth, c, cc, nL, RX12, g, dep) Q k n o q lv (.int (kI M a 15) :: st) M) : GG (p, l, e, R, s, m, args, below, meth, c, cc, nL, RX12, g, dep) Q k n (kg (kt M a 12) o) pc lv (.ref a :: st) M := g_getI q hX (ci := 12) (f := 15) (i := 205) (C := RX12) (T := TX12) (N := 30) rfl (Nat.le_of_ble_eq_true rfl) inX12 (Nat.le_of_ble_eq_true rfl) (kw 1708 (by decide +kernel) rfl) rfl d e9 kk
theorem r_X12_209 (q : Nat) (hX : Cok (p, l, e, R, s, m, args, below, meth, c, cc, nL, RX12, g, dep)) {a : Nat} (d : decode cc pc = .ok (.getfield 209, 3)) (e9 : pc + 3 = q) (kk : GG (p, l, e, R, s, m, args, below, meth, c, cc, nL, RX12, g, dep) Q k n o q lv (.int (kI M a 16) :: st) M) : GG (p, l, e, R, s, m, args, below, meth, c, cc, nL, RX12, g, dep) Q k n (kg (kt M a 12) o) pc lv (.ref a :: st) M := g_getI q hX (ci := 12) (f := 16) (i := 209) (C := RX12) (T := TX12) (N := 30) rfl (Nat.le_of_ble_eq_true rfl) inX12 (Nat.le_of_ble_eq_true rfl) (kw 1709 (by decide +kernel) rfl) rfl d e9 kk
theorem r_X12_212 (q : Nat) (hX : Cok (p, l, e, R, s, m, args, below, meth, c, cc, nL, RX12, g, dep)) {a : Nat} (d : decode cc pc = .ok (.getfield 212, 3)) (e9 : pc + 3 = q) (kk : GG (p, l, e, R, s, m, args, below, meth, c, cc, nL, RX12, g, dep) Q k n o q lv (.int (kI M a 17) :: st) M) : GG (p, l, e, R, s, m, args, below, meth, c, cc, nL, RX12, g, dep) Q k n (kg (kt M a 12) o) pc lv (.ref a :: st) M := g_getI q hX (ci := 12) (f := 17) (i := 212) (C := RX12) (T := TX12) (N := 30) rfl (Nat.le_of_ble_eq_true rfl) inX12 (Nat.le_of_ble_eq_true rfl) (kw 1710 (by decide +kernel) rfl) rfl d e9 kk
theorem r_X12_22 (q : Nat) (hX : Cok (p, l, e, R, s, m, args, below, meth, c, cc, nL, RX12, g, dep)) {a : Nat} (d : decode cc pc = .ok (.getfield 22, 3)) (e9 : pc + 3 = q) (kk : GG (p, l, e, R, s, m, args, below, meth, c, cc, nL, RX12, g, dep) Q k n o q lv (.ref (kR M a 4) :: st) M) : GG (p, l, e, R, s, m, args, below, meth, c, cc, nL, RX12, g, dep) Q k n (kg (kt M a 12) o) pc lv (.ref a :: st) M := g_getR q hX (ci := 12) (f := 4) (i := 22) (C := RX12) (T := TX12) (N := 30) rfl (Nat.le_of_ble_eq_true rfl) inX12 (Nat.le_of_ble_eq_true rfl) (kw 1697 (by decide +kernel) rfl) rfl d e9 kk
theorem r_X12_26 (q : Nat) (hX : Cok (p, l, e, R, s, m, args, below, meth, c, cc, nL, RX12, g, dep)) {a : Nat} (d : decode cc pc = .ok (.getfield 26, 3)) (e9 : pc + 3 = q) (kk : GG (p, l, e, R, s, m, args, below, meth, c, cc, nL, RX12, g, dep) Q k n o q lv (.ref (kR M a 7) :: st) M) : GG (p, l, e, R, s, m, args, below, meth, c, cc, nL, RX12, g, dep) Q k n (kg (kt M a 12) o) pc lv (.ref a :: st) M := g_getR q hX (ci := 12) (f := 7) (i := 26) (C := RX12) (T := TX12) (N := 30) rfl (Nat.le_of_ble_eq_true rfl) inX12 (Nat.le_of_ble_eq_true rfl) (kw 1700 (by decide +kernel) rfl) rfl d e9 kk
theorem r_X12_276 (q : Nat) (hX : Cok (p, l, e, R, s, m, args, below, meth, c, cc, nL, RX12, g, dep)) {a : Nat} (d : decode cc pc = .ok (.getfield 276, 3)) (e9 : pc + 3 = q) (kk : GG (p, l, e, R, s, m, args, below, meth, c, cc, nL, RX12, g, dep) Q k n o q lv (.int (kI M a 18) :: st) M) : GG (p, l, e, R, s, m, args, below, meth, c, cc, nL, RX12, g, dep) Q k n (kg (kt M a 12) o) pc lv (.ref a :: st) M := g_getI q hX (ci := 12) (f := 18) (i := 276) (C := RX12) (T := TX12) (N := 30) rfl (Nat.le_of_ble_eq_true rfl) inX12 (Nat.le_of_ble_eq_true rfl) (kw 1711 (by decide +kernel) rfl) rfl d e9 kk
theorem r_X12_29 (q : Nat) (hX : Cok (p, l, e, R, s, m, args, below, meth, c, cc, nL, RX12, g, dep)) {a : Nat} (d : decode cc pc = .ok (.getfield 29, 3)) (e9 : pc + 3 = q) (kk : GG (p, l, e, R, s, m, args, below, meth, c, cc, nL, RX12, g, dep) Q k n o q lv (.ref (kR M a 8) :: st) M) : GG (p, l, e, R, s, m, args, below, meth, c, cc, nL, RX12, g, dep) Q k n (kg (kt M a 12) o) pc lv (.ref a :: st) M := g_getR q hX (ci := 12) (f := 8) (i := 29) (C := RX12) (T := TX12) (N := 30) rfl (Nat.le_of_ble_eq_true rfl) inX12 (Nat.le_of_ble_eq_true rfl) (kw 1701 (by decide +kernel) rfl) rfl d e9 kk
theorem r_X12_295 (q : Nat) (hX : Cok (p, l, e, R, s, m, args, below, meth, c, cc, nL, RX12, g, dep)) {a : Nat} (d : decode cc pc = .ok (.getfield 295, 3)) (e9 : pc + 3 = q) (kk : GG (p, l, e, R, s, m, args, below, meth, c, cc, nL, RX12, g, dep) Q k n o q lv (.int (kI M a 5) :: st) M) : GG (p, l, e, R, s, m, args, below, meth, c, cc, nL, RX12, g, dep) Q k n (kg (kt M a 12) o) pc lv (.ref a :: st) M := g_getI q hX (ci := 12) (f := 5) (i := 295) (C := RX12) (T := TX12) (N := 30) rfl (Nat.le_of_ble_eq_true rfl) inX12 (Nat.le_of_ble_eq_true rfl) (kw 1698 (by decide +kernel) rfl) rfl d e9 kk
theorem r_X12_314 (q : Nat) (hX : Cok (p, l, e, R, s, m, args, below, meth, c, cc, nL, RX12, g, dep)) {a : Nat} (d : decode cc pc = .ok (.getfield 314, 3)) (e9 : pc + 3 = q) (kk : GG (p, l, e, R, s, m, args, below, meth, c, cc, nL, RX12, g, dep) Q k n o q lv (.int (kI M a 21) :: st) M) : GG (p, l, e, R, s, m, args, below, meth, c, cc, nL, RX12, g, dep) Q k n (kg (kt M a 12) o) pc lv (.ref a :: st) M := g_getI q hX (ci := 12) (f := 21) (i := 314) (C := RX12) (T := TX12) (N := 30) rfl (Nat.le_of_ble_eq_true rfl) inX12 (Nat.le_of_ble_eq_true rfl) (kw 1714 (by decide +kernel) rfl) rfl d e9 kk
theorem r_X12_318 (q : Nat) (hX : Cok (p, l, e, R, s, m, args, below, meth, c, cc, nL, RX12, g, dep)) {a : Nat} (d : decode cc pc = .ok (.getfield 318, 3)) (e9 : pc + 3 = q) (kk : GG (p, l, e, R, s, m, args, below, meth, c, cc, nL, RX12, g, dep) Q k n o q lv (.int (kI M a 22) :: st) M) : GG (p, l, e, R, s, m, args, below, meth, c, cc, nL, RX12, g, dep) Q k n (kg (kt M a 12) o) pc lv (.ref a :: st) M := g_getI q hX (ci := 12) (f := 22) (i := 318) (C := RX12) (T := TX12) (N := 30) rfl (Nat.le_of_ble_eq_true rfl) inX12 (Nat.le_of_ble_eq_true rfl) (kw 1715 (by decide +kernel) rfl) rfl d e9 kk
theorem r_X12_32 (q : Nat) (hX : Cok (p, l, e, R, s, m, args, below, meth, c, cc, nL, RX12, g, dep)) {a : Nat} (d : decode cc pc = .ok (.getfield 32, 3)) (e9 : pc + 3 = q) (kk : GG (p, l, e, R, s, m, args, below, meth, c, cc, nL, RX12, g, dep) Q k n o q lv (.ref (kR M a 9) :: st) M) : GG (p, l, e, R, s, m, args, below, meth, c, cc, nL, RX12, g, dep) Q k n (kg (kt M a 12) o) pc lv (.ref a :: st) M := g_getR q hX (ci := 12) (f := 9) (i := 32) (C := RX12) (T := TX12) (N := 30) rfl (Nat.le_of_ble_eq_true rfl) inX12 (Nat.le_of_ble_eq_true rfl) (kw 1702 (by decide +kernel) rfl) rfl d e9 kk
theorem r_X12_321 (q : Nat) (hX : Cok (p, l, e, R, s, m, args, below, meth, c, cc, nL, RX12, g, dep)) {a : Nat} (d : decode cc pc = .ok (.getfield 321, 3)) (e9 : pc + 3 = q) (kk : GG (p, l, e, R, s, m, args, below, meth, c, cc, nL, RX12, g, dep) Q k n o q lv (.int (kI M a 25) :: st) M) : GG (p, l, e, R, s, m, args, below, meth, c, cc, nL, RX12, g, dep) Q k n (kg (kt M a 12) o) pc lv (.ref a :: st) M := g_getI q hX (ci := 12) (f := 25) (i := 321) (C := RX12) (T := TX12) (N := 30) rfl (Nat.le_of_ble_eq_true rfl) inX12 (Nat.le_of_ble_eq_true rfl) (kw 1718 (by decide +kernel) rfl) rfl d e9 kk
theorem r_X12_35 (q : Nat) (hX : Cok (p, l, e, R, s, m, args, below, meth, c, cc, nL, RX12, g, dep)) {a : Nat} (d : decode cc pc = .ok (.getfield 35, 3)) (e9 : pc + 3 = q) (kk : GG (p, l, e, R, s, m, args, below, meth, c, cc, nL, RX12, g, dep) Q k n o q lv (.int (kI M a 19) :: st) M) : GG (p, l, e, R, s, m, args, below, meth, c, cc, nL, RX12, g, dep) Q k n (kg (kt M a 12) o) pc lv (.ref a :: st) M := g_getI q hX (ci := 12) (f := 19) (i := 35) (C := RX12) (T := TX12) (N := 30) rfl (Nat.le_of_ble_eq_true rfl) inX12 (Nat.le_of_ble_eq_true rfl) (kw 1712 (by decide +kernel) rfl) rfl d e9 kk
theorem r_X12_374 (q : Nat) (hX : Cok (p, l, e, R, s, m, args, below, meth, c, cc, nL, RX12, g, dep)) {a : Nat} (d : decode cc pc = .ok (.getfield 374, 3)) (e9 : pc + 3 = q) (kk : GG (p, l, e, R, s, m, args, below, meth, c, cc, nL, RX12, g, dep) Q k n o q lv (.int (kI M a 24) :: st) M) : GG (p, l, e, R, s, m, args, below, meth, c, cc, nL, RX12, g, dep) Q k n (kg (kt M a 12) o) pc lv (.ref a :: st) M := g_getI q hX (ci := 12) (f := 24) (i := 374) (C := RX12) (T := TX12) (N := 30) rfl (Nat.le_of_ble_eq_true rfl) inX12 (Nat.le_of_ble_eq_true rfl) (kw 1717 (by decide +kernel) rfl) rfl d e9 kk
theorem r_X12_39 (q : Nat) (hX : Cok (p, l, e, R, s, m, args, below, meth, c, cc, nL, RX12, g, dep)) {a : Nat} (d : decode cc pc = .ok (.getfield 39, 3)) (e9 : pc + 3 = q) (kk : GG (p, l, e, R, s, m, args, below, meth, c, cc, nL, RX12, g, dep) Q k n o q lv (.ref (kR M a 26) :: st) M) : GG (p, l, e, R, s, m, args, below, meth, c, cc, nL, RX12, g, dep) Q k n (kg (kt M a 12) o) pc lv (.ref a :: st) M := g_getR q hX (ci := 12) (f := 26) (i := 39) (C := RX12) (T := TX12) (N := 30) rfl (Nat.le_of_ble_eq_true rfl) inX12 (Nat.le_of_ble_eq_true rfl) (kw 1719 (by decide +kernel) rfl) rfl d e9 kk
theorem r_X12_395 (q : Nat) (hX : Cok (p, l, e, R, s, m, args, below, meth, c, cc, nL, RX12, g, dep)) {a : Nat} (d : decode cc pc = .ok (.getfield 395, 3)) (e9 : pc + 3 = q) (kk : GG (p, l, e, R, s, m, args, below, meth, c, cc, nL, RX12, g, dep) Q k n o q lv (.int (kI M a 23) :: st) M) : GG (p, l, e, R, s, m, args, below, meth, c, cc, nL, RX12, g, dep) Q k n (kg (kt M a 12) o) pc lv (.ref a :: st) M := g_getI q hX (ci := 12) (f := 23) (i := 395) (C := RX12) (T := TX12) (N := 30) rfl (Nat.le_of_ble_eq_true rfl) inX12 (Nat.le_of_ble_eq_true rfl) (kw 1716 (by decide +kernel) rfl) rfl d e9 kk
theorem r_X12_42 (q : Nat) (hX : Cok (p, l, e, R, s, m, args, below, meth, c, cc, nL, RX12, g, dep)) {a : Nat} (d : decode cc pc = .ok (.getfield 42, 3)) (e9 : pc + 3 = q) (kk : GG (p, l, e, R, s, m, args, below, meth, c, cc, nL, RX12, g, dep) Q k n o q lv (.ref (kR M a 27) :: st) M) : GG (p, l, e, R, s, m, args, below, meth, c, cc, nL, RX12, g, dep) Q k n (kg (kt M a 12) o) pc lv (.ref a :: st) M := g_getR q hX (ci := 12) (f := 27) (i := 42) (C := RX12) (T := TX12) (N := 30) rfl (Nat.le_of_ble_eq_true rfl) inX12 (Nat.le_of_ble_eq_true rfl) (kw 1720 (by decide +kernel) rfl) rfl d e9 kk
theorem r_X12_45 (q : Nat) (hX : Cok (p, l, e, R, s, m, args, below, meth, c, cc, nL, RX12, g, dep)) {a : Nat} (d : decode cc pc = .ok (.getfield 45, 3)) (e9 : pc + 3 = q) (kk : GG (p, l, e, R, s, m, args, below, meth, c, cc, nL, RX12, g, dep) Q k n o q lv (.ref (kR M a 28) :: st) M) : GG (p, l, e, R, s, m, args, below, meth, c, cc, nL, RX12, g, dep) Q k n (kg (kt M a 12) o) pc lv (.ref a :: st) M := g_getR q hX (ci := 12) (f := 28) (i := 45) (C := RX12) (T := TX12) (N := 30) rfl (Nat.le_of_ble_eq_true rfl) inX12 (Nat.le_of_ble_eq_true rfl) (kw 1721 (by decide +kernel) rfl) rfl d e9 kk
theorem r_X12_484 (q : Nat) (hX : Cok (p, l, e, R, s, m, args, below, meth, c, cc, nL, RX12, g, dep)) {a : Nat} (d : decode cc pc = .ok (.getfield 484, 3)) (e9 : pc + 3 = q) (kk : GG (p, l, e, R, s, m, args, below, meth, c, cc, nL, RX12, g, dep) Q k n o q lv (.int (kI M a 29) :: st) M) : GG (p, l, e, R, s, m, args, below, meth, c, cc, nL, RX12, g, dep) Q k n (kg (kt M a 12) o) pc lv (.ref a :: st) M := g_getI q hX (ci := 12) (f := 29) (i := 484) (C := RX12) (T := TX12) (N := 30) rfl (Nat.le_of_ble_eq_true rfl) inX12 (Nat.le_of_ble_eq_true rfl) (kw 1722 (by decide +kernel) rfl) rfl d e9 kk
theorem r_X12_63 (q : Nat) (hX : Cok (p, l, e, R, s, m, args, below, meth, c, cc, nL, RX12, g, dep)) {a : Nat} (d : decode cc pc = .ok (.getfield 63, 3)) (e9 : pc + 3 = q) (kk : GG (p, l, e, R, s, m, args, below, meth, c, cc, nL, RX12, g, dep) Q k n o q lv (.int (kI M a 6) :: st) M) : GG (p, l, e, R, s, m, args, below, meth, c, cc, nL, RX12, g, dep) Q k n (kg (kt M a 12) o) pc lv (.ref a :: st) M := g_getI q hX (ci := 12) (f := 6) (i := 63) (C := RX12) (T := TX12) (N := 30) rfl (Nat.le_of_ble_eq_true rfl) inX12 (Nat.le_of_ble_eq_true rfl) (kw 1699 (by decide +kernel) rfl) rfl d e9 kk
theorem r_X12_7 (q : Nat) (hX : Cok (p, l, e, R, s, m, args, below, meth, c, cc, nL, RX12, g, dep)) {a : Nat} (d : decode cc pc = .ok (.getfield 7, 3)) (e9 : pc + 3 = q) (kk : GG (p, l, e, R, s, m, args, below, meth, c, cc, nL, RX12, g, dep) Q k n o q lv (.ref (kR M a 0) :: st) M) : GG (p, l, e, R, s, m, args, below, meth, c, cc, nL, RX12, g, dep) Q k n (kg (kt M a 12) o) pc lv (.ref a :: st) M := g_getR q hX (ci := 12) (f := 0) (i := 7) (C := RX12) (T := TX12) (N := 30) rfl (Nat.le_of_ble_eq_true rfl) inX12 (Nat.le_of_ble_eq_true rfl) (kw 1693 (by decide +kernel) rfl) rfl d e9 kk
end kInst
theorem lk_X12_atBoard : kLs yX12_atBoard cX12_atBoard 2 (some .int) 2 := ⟨kw 1670 (by decide +kernel) rfl, kw 1669 (by decide +kernel) rfl, kw 149 (by decide +kernel) rfl, ⟨by decide, by decide, by decide +kernel⟩, Nat.le_of_ble_eq_true rfl⟩
theorem lk_X12_atTrader : kLs yX12_atTrader cX12_atTrader 2 (some .int) 2 := ⟨kw 1677 (by decide +kernel) rfl, kw 1676 (by decide +kernel) rfl, kw 149 (by decide +kernel) rfl, ⟨by decide, by decide, by decide +kernel⟩, Nat.le_of_ble_eq_true rfl⟩
theorem lk_X12_atSeat : kLs yX12_atSeat cX12_atSeat 2 (some .int) 2 := ⟨kw 1684 (by decide +kernel) rfl, kw 1683 (by decide +kernel) rfl, kw 149 (by decide +kernel) rfl, ⟨by decide, by decide, by decide +kernel⟩, Nat.le_of_ble_eq_true rfl⟩
theorem lk_X12_has : kLk yX12_has cX12_has 3 (some .int) 2 := ⟨kw 1692 (by decide +kernel) rfl, kw 1691 (by decide +kernel) rfl, kw 149 (by decide +kernel) rfl, ⟨by decide, by decide, by decide +kernel⟩, Nat.le_of_ble_eq_true rfl⟩
theorem lk_X12_isSeated : kLk yX12_isSeated cX12_isSeated 2 (some .boolean) 1 := ⟨kw 1914 (by decide +kernel) rfl, kw 1913 (by decide +kernel) rfl, kw 149 (by decide +kernel) rfl, ⟨by decide, by decide, by decide +kernel⟩, Nat.le_of_ble_eq_true rfl⟩
theorem lk_X12_ofBoard : kLk yX12_ofBoard cX12_ofBoard 3 (some .int) 2 := ⟨kw 1924 (by decide +kernel) rfl, kw 1923 (by decide +kernel) rfl, kw 149 (by decide +kernel) rfl, ⟨by decide, by decide, by decide +kernel⟩, Nat.le_of_ble_eq_true rfl⟩
theorem lk_X12_in : kLs yX12_in cX12_in 6 (some .boolean) 3 := ⟨kw 1810 (by decide +kernel) rfl, kw 1809 (by decide +kernel) rfl, kw 149 (by decide +kernel) rfl, ⟨by decide, by decide, by decide +kernel⟩, Nat.le_of_ble_eq_true rfl⟩
theorem lk_X12_onSeat : kLk yX12_onSeat cX12_onSeat 3 (some .int) 2 := ⟨kw 1928 (by decide +kernel) rfl, kw 1927 (by decide +kernel) rfl, kw 149 (by decide +kernel) rfl, ⟨by decide, by decide, by decide +kernel⟩, Nat.le_of_ble_eq_true rfl⟩
theorem lk_X12_lesser : kLs yX12_lesser cX12_lesser 2 (some .int) 2 := ⟨kw 1905 (by decide +kernel) rfl, kw 1904 (by decide +kernel) rfl, kw 149 (by decide +kernel) rfl, ⟨by decide, by decide, by decide +kernel⟩, Nat.le_of_ble_eq_true rfl⟩
theorem lk_X12_greater : kLs yX12_greater cX12_greater 2 (some .int) 2 := ⟨kw 2025 (by decide +kernel) rfl, kw 2024 (by decide +kernel) rfl, kw 149 (by decide +kernel) rfl, ⟨by decide, by decide, by decide +kernel⟩, Nat.le_of_ble_eq_true rfl⟩
theorem lk_X12_torqueOf : kLk yX12_torqueOf cX12_torqueOf 4 (some .int) 1 := ⟨kw 2018 (by decide +kernel) rfl, kw 2017 (by decide +kernel) rfl, kw 149 (by decide +kernel) rfl, ⟨by decide, by decide, by decide +kernel⟩, Nat.le_of_ble_eq_true rfl⟩
theorem lk_X12_tiltBy : kLk yX12_tiltBy cX12_tiltBy 3 (some .int) 2 := ⟨kw 2022 (by decide +kernel) rfl, kw 2021 (by decide +kernel) rfl, kw 149 (by decide +kernel) rfl, ⟨by decide, by decide, by decide +kernel⟩, Nat.le_of_ble_eq_true rfl⟩
theorem lk_X12_height : kLk yX12_height cX12_height 3 (some .int) 2 := ⟨kw 2014 (by decide +kernel) rfl, kw 2013 (by decide +kernel) rfl, kw 149 (by decide +kernel) rfl, ⟨by decide, by decide, by decide +kernel⟩, Nat.le_of_ble_eq_true rfl⟩
theorem lk_X12_bare : kLs yX12_bare cX12_bare 1 (some .int) 1 := ⟨kw 2010 (by decide +kernel) rfl, kw 2009 (by decide +kernel) rfl, kw 149 (by decide +kernel) rfl, ⟨by decide, by decide, by decide +kernel⟩, Nat.le_of_ble_eq_true rfl⟩
theorem lk_X12_ownHeight : kLk yX12_ownHeight cX12_ownHeight 2 (some .int) 1 := ⟨kw 2073 (by decide +kernel) rfl, kw 2072 (by decide +kernel) rfl, kw 149 (by decide +kernel) rfl, ⟨by decide, by decide, by decide +kernel⟩, Nat.le_of_ble_eq_true rfl⟩
theorem lk_X12_moves : kLk yX12_moves cX12_moves 5 none 3 := ⟨kw 2041 (by decide +kernel) rfl, kw 2040 (by decide +kernel) rfl, kw 149 (by decide +kernel) rfl, ⟨by decide, by decide, by decide +kernel⟩, Nat.le_of_ble_eq_true rfl⟩
theorem lk_X12_rises : kLk yX12_rises cX12_rises 2 none 1 := ⟨kw 2045 (by decide +kernel) rfl, kw 2044 (by decide +kernel) rfl, kw 149 (by decide +kernel) rfl, ⟨by decide, by decide, by decide +kernel⟩, Nat.le_of_ble_eq_true rfl⟩
theorem lk_X12_records : kLk yX12_records cX12_records 4 none 2 := ⟨kw 2117 (by decide +kernel) rfl, kw 2116 (by decide +kernel) rfl, kw 149 (by decide +kernel) rfl, ⟨by decide, by decide, by decide +kernel⟩, Nat.le_of_ble_eq_true rfl⟩
theorem lk_X12_isTooMuch : kLk yX12_isTooMuch cX12_isTooMuch 3 (some .boolean) 2 := ⟨kw 2033 (by decide +kernel) rfl, kw 2032 (by decide +kernel) rfl, kw 149 (by decide +kernel) rfl, ⟨by decide, by decide, by decide +kernel⟩, Nat.le_of_ble_eq_true rfl⟩
theorem lk_X12_earns : kLk yX12_earns cX12_earns 3 none 0 := ⟨kw 2109 (by decide +kernel) rfl, kw 2108 (by decide +kernel) rfl, kw 149 (by decide +kernel) rfl, ⟨by decide, by decide, by decide +kernel⟩, Nat.le_of_ble_eq_true rfl⟩
theorem lk_X12_ages : kLk yX12_ages cX12_ages 2 none 0 := ⟨kw 2113 (by decide +kernel) rfl, kw 2112 (by decide +kernel) rfl, kw 149 (by decide +kernel) rfl, ⟨by decide, by decide, by decide +kernel⟩, Nat.le_of_ble_eq_true rfl⟩
theorem lk_X12_tips : kLk yX12_tips cX12_tips 5 none 1 := ⟨kw 2121 (by decide +kernel) rfl, kw 2120 (by decide +kernel) rfl, kw 149 (by decide +kernel) rfl, ⟨by decide, by decide, by decide +kernel⟩, Nat.le_of_ble_eq_true rfl⟩
theorem lk_X12_day1 : kLk yX12_day1 cX12_day1 2 none 0 := ⟨kw 2105 (by decide +kernel) rfl, kw 2104 (by decide +kernel) rfl, kw 149 (by decide +kernel) rfl, ⟨by decide, by decide, by decide +kernel⟩, Nat.le_of_ble_eq_true rfl⟩
theorem lk_X12_price : kLk yX12_price cX12_price 3 (some .int) 2 := ⟨kw 2007 (by decide +kernel) rfl, kw 2006 (by decide +kernel) rfl, kw 149 (by decide +kernel) rfl, ⟨by decide, by decide, by decide +kernel⟩, Nat.le_of_ble_eq_true rfl⟩
theorem lk_X12_torqueWith : kLk yX12_torqueWith cX12_torqueWith 5 (some .int) 3 := ⟨kw 2029 (by decide +kernel) rfl, kw 2028 (by decide +kernel) rfl, kw 149 (by decide +kernel) rfl, ⟨by decide, by decide, by decide +kernel⟩, Nat.le_of_ble_eq_true rfl⟩
theorem lk_X12_unitPrice : kLk yX12_unitPrice cX12_unitPrice 3 (some .int) 2 := ⟨kw 2069 (by decide +kernel) rfl, kw 2068 (by decide +kernel) rfl, kw 149 (by decide +kernel) rfl, ⟨by decide, by decide, by decide +kernel⟩, Nat.le_of_ble_eq_true rfl⟩
theorem lk_X12_torqueSwapped : kLk yX12_torqueSwapped cX12_torqueSwapped 4 (some .int) 2 := ⟨kw 2081 (by decide +kernel) rfl, kw 2080 (by decide +kernel) rfl, kw 149 (by decide +kernel) rfl, ⟨by decide, by decide, by decide +kernel⟩, Nat.le_of_ble_eq_true rfl⟩
theorem lk_X12_sits : kLk yX12_sits cX12_sits 4 none 3 := ⟨kw 1681 (by decide +kernel) rfl, kw 1680 (by decide +kernel) rfl, kw 149 (by decide +kernel) rfl, ⟨by decide, by decide, by decide +kernel⟩, Nat.le_of_ble_eq_true rfl⟩
theorem lk_X12_appears : kLk yX12_appears cX12_appears 6 none 4 := ⟨kw 1674 (by decide +kernel) rfl, kw 1673 (by decide +kernel) rfl, kw 149 (by decide +kernel) rfl, ⟨by decide, by decide, by decide +kernel⟩, Nat.le_of_ble_eq_true rfl⟩
theorem lk_X12_bytesIn : kLk yX12_bytesIn cX12_bytesIn 4 (some .int) 1 := ⟨kw 1795 (by decide +kernel) rfl, kw 1794 (by decide +kernel) rfl, kw 149 (by decide +kernel) rfl, ⟨by decide, by decide, by decide +kernel⟩, Nat.le_of_ble_eq_true rfl⟩
theorem lk_X12_stops : kLk yX12_stops cX12_stops 3 (some .boolean) 2 := ⟨kw 1799 (by decide +kernel) rfl, kw 1798 (by decide +kernel) rfl, kw 149 (by decide +kernel) rfl, ⟨by decide, by decide, by decide +kernel⟩, Nat.le_of_ble_eq_true rfl⟩
theorem lk_X12_four : kLk yX12_four cX12_four 3 none 1 := ⟨kw 1803 (by decide +kernel) rfl, kw 1802 (by decide +kernel) rfl, kw 149 (by decide +kernel) rfl, ⟨by decide, by decide, by decide +kernel⟩, Nat.le_of_ble_eq_true rfl⟩
theorem lk_X12_see : kLk yX12_see cX12_see 2 (some .int) 1 := ⟨kw 1833 (by decide +kernel) rfl, kw 1832 (by decide +kernel) rfl, kw 149 (by decide +kernel) rfl, ⟨by decide, by decide, by decide +kernel⟩, Nat.le_of_ble_eq_true rfl⟩
theorem lk_X12_isSmall : kLs yX12_isSmall cX12_isSmall 1 (some .boolean) 1 := ⟨kw 1836 (by decide +kernel) rfl, kw 1835 (by decide +kernel) rfl, kw 149 (by decide +kernel) rfl, ⟨by decide, by decide, by decide +kernel⟩, Nat.le_of_ble_eq_true rfl⟩
theorem lk_X12_isDigit : kLs yX12_isDigit cX12_isDigit 1 (some .boolean) 1 := ⟨kw 1843 (by decide +kernel) rfl, kw 1842 (by decide +kernel) rfl, kw 149 (by decide +kernel) rfl, ⟨by decide, by decide, by decide +kernel⟩, Nat.le_of_ble_eq_true rfl⟩
theorem lk_X12_scan : kLk yX12_scan cX12_scan 2 none 0 := ⟨kw 1829 (by decide +kernel) rfl, kw 1828 (by decide +kernel) rfl, kw 149 (by decide +kernel) rfl, ⟨by decide, by decide, by decide +kernel⟩, Nat.le_of_ble_eq_true rfl⟩
theorem lk_X12_isSign : kLk yX12_isSign cX12_isSign 2 (some .boolean) 1 := ⟨kw 1876 (by decide +kernel) rfl, kw 1875 (by decide +kernel) rfl, kw 149 (by decide +kernel) rfl, ⟨by decide, by decide, by decide +kernel⟩, Nat.le_of_ble_eq_true rfl⟩
theorem lk_X12_must : kLk yX12_must cX12_must 3 none 2 := ⟨kw 1859 (by decide +kernel) rfl, kw 1858 (by decide +kernel) rfl, kw 149 (by decide +kernel) rfl, ⟨by decide, by decide, by decide +kernel⟩, Nat.le_of_ble_eq_true rfl⟩
theorem lk_X12_goesOn : kLk yX12_goesOn cX12_goesOn 1 none 0 := ⟨kw 1863 (by decide +kernel) rfl, kw 1862 (by decide +kernel) rfl, kw 149 (by decide +kernel) rfl, ⟨by decide, by decide, by decide +kernel⟩, Nat.le_of_ble_eq_true rfl⟩
theorem lk_X12_isGood : kLk yX12_isGood cX12_isGood 1 (some .boolean) 0 := ⟨kw 1885 (by decide +kernel) rfl, kw 1884 (by decide +kernel) rfl, kw 149 (by decide +kernel) rfl, ⟨by decide, by decide, by decide +kernel⟩, Nat.le_of_ble_eq_true rfl⟩
theorem lk_X12_traderNamed : kLk yX12_traderNamed cX12_traderNamed 3 (some .int) 1 := ⟨kw 1902 (by decide +kernel) rfl, kw 1901 (by decide +kernel) rfl, kw 149 (by decide +kernel) rfl, ⟨by decide, by decide, by decide +kernel⟩, Nat.le_of_ble_eq_true rfl⟩
theorem lk_X12_reads : kLk yX12_reads cX12_reads 4 (some .int) 2 := ⟨kw 1867 (by decide +kernel) rfl, kw 1866 (by decide +kernel) rfl, kw 149 (by decide +kernel) rfl, ⟨by decide, by decide, by decide +kernel⟩, Nat.le_of_ble_eq_true rfl⟩
theorem lk_X12_builds : kLk yX12_builds cX12_builds 5 none 3 := ⟨kw 1667 (by decide +kernel) rfl, kw 1666 (by decide +kernel) rfl, kw 149 (by decide +kernel) rfl, ⟨by decide, by decide, by decide +kernel⟩, Nat.le_of_ble_eq_true rfl⟩
theorem lk_X12_isNameHere : kLk yX12_isNameHere cX12_isNameHere 1 (some .boolean) 0 := ⟨kw 1894 (by decide +kernel) rfl, kw 1893 (by decide +kernel) rfl, kw 149 (by decide +kernel) rfl, ⟨by decide, by decide, by decide +kernel⟩, Nat.le_of_ble_eq_true rfl⟩
theorem lk_X12_named : kLk yX12_named cX12_named 1 (some .int) 0 := ⟨kw 1898 (by decide +kernel) rfl, kw 1897 (by decide +kernel) rfl, kw 149 (by decide +kernel) rfl, ⟨by decide, by decide, by decide +kernel⟩, Nat.le_of_ble_eq_true rfl⟩
theorem lk_X12_isWord : kLk yX12_isWord cX12_isWord 3 (some .boolean) 1 := ⟨kw 1855 (by decide +kernel) rfl, kw 1854 (by decide +kernel) rfl, kw 149 (by decide +kernel) rfl, ⟨by decide, by decide, by decide +kernel⟩, Nat.le_of_ble_eq_true rfl⟩
theorem lk_X12_sideText : kLk yX12_sideText cX12_sideText 2 (some .int) 0 := ⟨kw 1918 (by decide +kernel) rfl, kw 1917 (by decide +kernel) rfl, kw 149 (by decide +kernel) rfl, ⟨by decide, by decide, by decide +kernel⟩, Nat.le_of_ble_eq_true rfl⟩
theorem lk_X12_sign : kLk yX12_sign cX12_sign 2 none 1 := ⟨kw 1872 (by decide +kernel) rfl, kw 1871 (by decide +kernel) rfl, kw 149 (by decide +kernel) rfl, ⟨by decide, by decide, by decide +kernel⟩, Nat.le_of_ble_eq_true rfl⟩
theorem lk_X12_seatText : kLk yX12_seatText cX12_seatText 5 none 0 := ⟨kw 1910 (by decide +kernel) rfl, kw 1909 (by decide +kernel) rfl, kw 149 (by decide +kernel) rfl, ⟨by decide, by decide, by decide +kernel⟩, Nat.le_of_ble_eq_true rfl⟩
theorem lk_X12_traderText : kLk yX12_traderText cX12_traderText 5 none 0 := ⟨kw 1890 (by decide +kernel) rfl, kw 1889 (by decide +kernel) rfl, kw 149 (by decide +kernel) rfl, ⟨by decide, by decide, by decide +kernel⟩, Nat.le_of_ble_eq_true rfl⟩
theorem lk_X12_boardText : kLk yX12_boardText cX12_boardText 4 none 0 := ⟨kw 1881 (by decide +kernel) rfl, kw 1880 (by decide +kernel) rfl, kw 149 (by decide +kernel) rfl, ⟨by decide, by decide, by decide +kernel⟩, Nat.le_of_ble_eq_true rfl⟩
theorem lk_X12_takesText : kLk yX12_takesText cX12_takesText 2 none 0 := ⟨kw 1818 (by decide +kernel) rfl, kw 1817 (by decide +kernel) rfl, kw 149 (by decide +kernel) rfl, ⟨by decide, by decide, by decide +kernel⟩, Nat.le_of_ble_eq_true rfl⟩
theorem lk_X12_copies : kLs yX12_copies cX12_copies 5 none 4 := ⟨kw 1821 (by decide +kernel) rfl, kw 1820 (by decide +kernel) rfl, kw 149 (by decide +kernel) rfl, ⟨by decide, by decide, by decide +kernel⟩, Nat.le_of_ble_eq_true rfl⟩
theorem lk_X12_starts : kLk yX12_starts cX12_starts 1 none 0 := ⟨kw 1825 (by decide +kernel) rfl, kw 1824 (by decide +kernel) rfl, kw 149 (by decide +kernel) rfl, ⟨by decide, by decide, by decide +kernel⟩, Nat.le_of_ble_eq_true rfl⟩
theorem lk_X12_setup : kLk yX12_setup cX12_setup 1 none 0 := ⟨kw 1850 (by decide +kernel) rfl, kw 1849 (by decide +kernel) rfl, kw 149 (by decide +kernel) rfl, ⟨by decide, by decide, by decide +kernel⟩, Nat.le_of_ble_eq_true rfl⟩
theorem lk_X12_tellsError : kLk yX12_tellsError cX12_tellsError 1 none 0 := ⟨kw 1932 (by decide +kernel) rfl, kw 1931 (by decide +kernel) rfl, kw 149 (by decide +kernel) rfl, ⟨by decide, by decide, by decide +kernel⟩, Nat.le_of_ble_eq_true rfl⟩
theorem lk_X12_allCoins : kLk yX12_allCoins cX12_allCoins 3 (some .int) 0 := ⟨kw 1688 (by decide +kernel) rfl, kw 1687 (by decide +kernel) rfl, kw 149 (by decide +kernel) rfl, ⟨by decide, by decide, by decide +kernel⟩, Nat.le_of_ble_eq_true rfl⟩
theorem lk_X12_flag : kLs yX12_flag cX12_flag 1 (some .int) 1 := ⟨kw 1991 (by decide +kernel) rfl, kw 1990 (by decide +kernel) rfl, kw 149 (by decide +kernel) rfl, ⟨by decide, by decide, by decide +kernel⟩, Nat.le_of_ble_eq_true rfl⟩
theorem lk_X12_nameText : kLk yX12_nameText cX12_nameText 2 (some .int) 0 := ⟨kw 1976 (by decide +kernel) rfl, kw 1975 (by decide +kernel) rfl, kw 149 (by decide +kernel) rfl, ⟨by decide, by decide, by decide +kernel⟩, Nat.le_of_ble_eq_true rfl⟩
theorem lk_X12_isActive : kLk yX12_isActive cX12_isActive 1 (some .boolean) 0 := ⟨kw 1980 (by decide +kernel) rfl, kw 1979 (by decide +kernel) rfl, kw 149 (by decide +kernel) rfl, ⟨by decide, by decide, by decide +kernel⟩, Nat.le_of_ble_eq_true rfl⟩
theorem lk_X12_came : kLk yX12_came cX12_came 2 none 1 := ⟨kw 1988 (by decide +kernel) rfl, kw 1987 (by decide +kernel) rfl, kw 149 (by decide +kernel) rfl, ⟨by decide, by decide, by decide +kernel⟩, Nat.le_of_ble_eq_true rfl⟩
theorem lk_X12_joins : kLk yX12_joins cX12_joins 4 (some .int) 3 := ⟨kw 1984 (by decide +kernel) rfl, kw 1983 (by decide +kernel) rfl, kw 149 (by decide +kernel) rfl, ⟨by decide, by decide, by decide +kernel⟩, Nat.le_of_ble_eq_true rfl⟩
theorem lk_X12_buys : kLk yX12_buys cX12_buys 5 (some .int) 3 := ⟨kw 2037 (by decide +kernel) rfl, kw 2036 (by decide +kernel) rfl, kw 149 (by decide +kernel) rfl, ⟨by decide, by decide, by decide +kernel⟩, Nat.le_of_ble_eq_true rfl⟩
theorem lk_X12_isPosition : kLk yX12_isPosition cX12_isPosition 3 (some .boolean) 2 := ⟨kw 1999 (by decide +kernel) rfl, kw 1998 (by decide +kernel) rfl, kw 149 (by decide +kernel) rfl, ⟨by decide, by decide, by decide +kernel⟩, Nat.le_of_ble_eq_true rfl⟩
theorem lk_X12_againstSeat : kLk yX12_againstSeat cX12_againstSeat 4 (some .int) 3 := ⟨kw 2003 (by decide +kernel) rfl, kw 2002 (by decide +kernel) rfl, kw 149 (by decide +kernel) rfl, ⟨by decide, by decide, by decide +kernel⟩, Nat.le_of_ble_eq_true rfl⟩
theorem lk_X12_leaves : kLk yX12_leaves cX12_leaves 3 (some .int) 1 := ⟨kw 2053 (by decide +kernel) rfl, kw 2052 (by decide +kernel) rfl, kw 149 (by decide +kernel) rfl, ⟨by decide, by decide, by decide +kernel⟩, Nat.le_of_ble_eq_true rfl⟩
theorem lk_X12_otherName : kLk yX12_otherName cX12_otherName 2 (some .int) 1 := ⟨kw 2061 (by decide +kernel) rfl, kw 2060 (by decide +kernel) rfl, kw 149 (by decide +kernel) rfl, ⟨by decide, by decide, by decide +kernel⟩, Nat.le_of_ble_eq_true rfl⟩
theorem lk_X12_swaps : kLk yX12_swaps cX12_swaps 6 (some .int) 2 := ⟨kw 2089 (by decide +kernel) rfl, kw 2088 (by decide +kernel) rfl, kw 149 (by decide +kernel) rfl, ⟨by decide, by decide, by decide +kernel⟩, Nat.le_of_ble_eq_true rfl⟩
theorem lk_X12_sells : kLk yX12_sells cX12_sells 5 (some .int) 3 := ⟨kw 2085 (by decide +kernel) rfl, kw 2084 (by decide +kernel) rfl, kw 149 (by decide +kernel) rfl, ⟨by decide, by decide, by decide +kernel⟩, Nat.le_of_ble_eq_true rfl⟩
theorem lk_X12_againstSwap : kLk yX12_againstSwap cX12_againstSwap 5 (some .int) 2 := ⟨kw 2077 (by decide +kernel) rfl, kw 2076 (by decide +kernel) rfl, kw 149 (by decide +kernel) rfl, ⟨by decide, by decide, by decide +kernel⟩, Nat.le_of_ble_eq_true rfl⟩
theorem lk_X12_againstSale : kLk yX12_againstSale cX12_againstSale 5 (some .int) 3 := ⟨kw 2065 (by decide +kernel) rfl, kw 2064 (by decide +kernel) rfl, kw 149 (by decide +kernel) rfl, ⟨by decide, by decide, by decide +kernel⟩, Nat.le_of_ble_eq_true rfl⟩
theorem lk_X12_days1 : kLk yX12_days1 cX12_days1 4 (some .int) 1 := ⟨kw 2101 (by decide +kernel) rfl, kw 2100 (by decide +kernel) rfl, kw 149 (by decide +kernel) rfl, ⟨by decide, by decide, by decide +kernel⟩, Nat.le_of_ble_eq_true rfl⟩
theorem lk_X12_setsWage : kLk yX12_setsWage cX12_setsWage 3 (some .int) 1 := ⟨kw 2097 (by decide +kernel) rfl, kw 2096 (by decide +kernel) rfl, kw 149 (by decide +kernel) rfl, ⟨by decide, by decide, by decide +kernel⟩, Nat.le_of_ble_eq_true rfl⟩
theorem lk_X12_pairText : kLk yX12_pairText cX12_pairText 8 none 1 := ⟨kw 2057 (by decide +kernel) rfl, kw 2056 (by decide +kernel) rfl, kw 149 (by decide +kernel) rfl, ⟨by decide, by decide, by decide +kernel⟩, Nat.le_of_ble_eq_true rfl⟩
theorem lk_X12_wholeText : kLk yX12_wholeText cX12_wholeText 5 none 1 := ⟨kw 2093 (by decide +kernel) rfl, kw 2092 (by decide +kernel) rfl, kw 149 (by decide +kernel) rfl, ⟨by decide, by decide, by decide +kernel⟩, Nat.le_of_ble_eq_true rfl⟩
theorem lk_X12_leaveText : kLk yX12_leaveText cX12_leaveText 4 none 0 := ⟨kw 2049 (by decide +kernel) rfl, kw 2048 (by decide +kernel) rfl, kw 149 (by decide +kernel) rfl, ⟨by decide, by decide, by decide +kernel⟩, Nat.le_of_ble_eq_true rfl⟩
theorem lk_X12_buyText : kLk yX12_buyText cX12_buyText 6 none 0 := ⟨kw 1995 (by decide +kernel) rfl, kw 1994 (by decide +kernel) rfl, kw 149 (by decide +kernel) rfl, ⟨by decide, by decide, by decide +kernel⟩, Nat.le_of_ble_eq_true rfl⟩
theorem lk_X12_joinText : kLk yX12_joinText cX12_joinText 6 none 0 := ⟨kw 1972 (by decide +kernel) rfl, kw 1971 (by decide +kernel) rfl, kw 149 (by decide +kernel) rfl, ⟨by decide, by decide, by decide +kernel⟩, Nat.le_of_ble_eq_true rfl⟩
theorem lk_X12_isOrder : kLk yX12_isOrder cX12_isOrder 1 (some .boolean) 0 := ⟨kw 1952 (by decide +kernel) rfl, kw 1951 (by decide +kernel) rfl, kw 149 (by decide +kernel) rfl, ⟨by decide, by decide, by decide +kernel⟩, Nat.le_of_ble_eq_true rfl⟩
theorem lk_X12_does : kLk yX12_does cX12_does 3 none 1 := ⟨kw 1968 (by decide +kernel) rfl, kw 1967 (by decide +kernel) rfl, kw 149 (by decide +kernel) rfl, ⟨by decide, by decide, by decide +kernel⟩, Nat.le_of_ble_eq_true rfl⟩
theorem lk_X12_againOrder : kLk yX12_againOrder cX12_againOrder 2 none 0 := ⟨kw 1964 (by decide +kernel) rfl, kw 1963 (by decide +kernel) rfl, kw 149 (by decide +kernel) rfl, ⟨by decide, by decide, by decide +kernel⟩, Nat.le_of_ble_eq_true rfl⟩
theorem lk_X12_order : kLk yX12_order cX12_order 3 none 0 := ⟨kw 1948 (by decide +kernel) rfl, kw 1947 (by decide +kernel) rfl, kw 149 (by decide +kernel) rfl, ⟨by decide, by decide, by decide +kernel⟩, Nat.le_of_ble_eq_true rfl⟩
theorem lk_X12_closes : kLk yX12_closes cX12_closes 1 none 0 := ⟨kw 1944 (by decide +kernel) rfl, kw 1943 (by decide +kernel) rfl, kw 149 (by decide +kernel) rfl, ⟨by decide, by decide, by decide +kernel⟩, Nat.le_of_ble_eq_true rfl⟩
theorem lk_X12_goesThrough : kLk yX12_goesThrough cX12_goesThrough 2 none 1 := ⟨kw 1940 (by decide +kernel) rfl, kw 1939 (by decide +kernel) rfl, kw 149 (by decide +kernel) rfl, ⟨by decide, by decide, by decide +kernel⟩, Nat.le_of_ble_eq_true rfl⟩
theorem lk_X12_keepsPast : kLk yX12_keepsPast cX12_keepsPast 2 none 0 := ⟨kw 2125 (by decide +kernel) rfl, kw 2124 (by decide +kernel) rfl, kw 149 (by decide +kernel) rfl, ⟨by decide, by decide, by decide +kernel⟩, Nat.le_of_ble_eq_true rfl⟩
theorem lk_X12_noBoard : kLk yX12_noBoard cX12_noBoard 2 (some .boolean) 1 := ⟨kw 2159 (by decide +kernel) rfl, kw 2158 (by decide +kernel) rfl, kw 149 (by decide +kernel) rfl, ⟨by decide, by decide, by decide +kernel⟩, Nat.le_of_ble_eq_true rfl⟩
theorem lk_X12_wholeName : kLk yX12_wholeName cX12_wholeName 3 (some .int) 0 := ⟨kw 2143 (by decide +kernel) rfl, kw 2142 (by decide +kernel) rfl, kw 149 (by decide +kernel) rfl, ⟨by decide, by decide, by decide +kernel⟩, Nat.le_of_ble_eq_true rfl⟩
theorem lk_X12_noTrader : kLk yX12_noTrader cX12_noTrader 2 (some .boolean) 1 := ⟨kw 2151 (by decide +kernel) rfl, kw 2150 (by decide +kernel) rfl, kw 149 (by decide +kernel) rfl, ⟨by decide, by decide, by decide +kernel⟩, Nat.le_of_ble_eq_true rfl⟩
theorem lk_X12_noSeat : kLk yX12_noSeat cX12_noSeat 3 (some .boolean) 2 := ⟨kw 2155 (by decide +kernel) rfl, kw 2154 (by decide +kernel) rfl, kw 149 (by decide +kernel) rfl, ⟨by decide, by decide, by decide +kernel⟩, Nat.le_of_ble_eq_true rfl⟩
theorem lk_X12_noSale : kLk yX12_noSale cX12_noSale 4 (some .boolean) 3 := ⟨kw 2171 (by decide +kernel) rfl, kw 2170 (by decide +kernel) rfl, kw 149 (by decide +kernel) rfl, ⟨by decide, by decide, by decide +kernel⟩, Nat.le_of_ble_eq_true rfl⟩
theorem lk_X12_noPair : kLk yX12_noPair cX12_noPair 3 (some .boolean) 2 := ⟨kw 2180 (by decide +kernel) rfl, kw 2179 (by decide +kernel) rfl, kw 149 (by decide +kernel) rfl, ⟨by decide, by decide, by decide +kernel⟩, Nat.le_of_ble_eq_true rfl⟩
theorem lk_X12_noSlot : kLk yX12_noSlot cX12_noSlot 2 (some .boolean) 1 := ⟨kw 2206 (by decide +kernel) rfl, kw 2205 (by decide +kernel) rfl, kw 149 (by decide +kernel) rfl, ⟨by decide, by decide, by decide +kernel⟩, Nat.le_of_ble_eq_true rfl⟩
theorem lk_X12_lettersOf : kLs yX12_lettersOf cX12_lettersOf 3 (some .int) 1 := ⟨kw 2288 (by decide +kernel) rfl, kw 2287 (by decide +kernel) rfl, kw 149 (by decide +kernel) rfl, ⟨by decide, by decide, by decide +kernel⟩, Nat.le_of_ble_eq_true rfl⟩
theorem lk_X12_letterOf : kLs yX12_letterOf cX12_letterOf 3 (some .int) 2 := ⟨kw 2285 (by decide +kernel) rfl, kw 2284 (by decide +kernel) rfl, kw 149 (by decide +kernel) rfl, ⟨by decide, by decide, by decide +kernel⟩, Nat.le_of_ble_eq_true rfl⟩
theorem lk_X12_asked : kLk yX12_asked cX12_asked 3 (some .int) 2 := ⟨kw 2296 (by decide +kernel) rfl, kw 2295 (by decide +kernel) rfl, kw 149 (by decide +kernel) rfl, ⟨by decide, by decide, by decide +kernel⟩, Nat.le_of_ble_eq_true rfl⟩
theorem lk_X12_isRicher : kLk yX12_isRicher cX12_isRicher 3 (some .boolean) 2 := ⟨kw 2332 (by decide +kernel) rfl, kw 2331 (by decide +kernel) rfl, kw 149 (by decide +kernel) rfl, ⟨by decide, by decide, by decide +kernel⟩, Nat.le_of_ble_eq_true rfl⟩
theorem lk_X12_richerThan : kLk yX12_richerThan cX12_richerThan 4 (some .int) 1 := ⟨kw 2328 (by decide +kernel) rfl, kw 2327 (by decide +kernel) rfl, kw 149 (by decide +kernel) rfl, ⟨by decide, by decide, by decide +kernel⟩, Nat.le_of_ble_eq_true rfl⟩
theorem lk_X12_incomeOn : kLk yX12_incomeOn cX12_incomeOn 4 (some .int) 3 := ⟨kw 2356 (by decide +kernel) rfl, kw 2355 (by decide +kernel) rfl, kw 149 (by decide +kernel) rfl, ⟨by decide, by decide, by decide +kernel⟩, Nat.le_of_ble_eq_true rfl⟩
theorem lk_X12_weightOn : kLk yX12_weightOn cX12_weightOn 3 (some .int) 2 := ⟨kw 2388 (by decide +kernel) rfl, kw 2387 (by decide +kernel) rfl, kw 149 (by decide +kernel) rfl, ⟨by decide, by decide, by decide +kernel⟩, Nat.le_of_ble_eq_true rfl⟩
theorem lk_X12_torqueByDistances : kLk yX12_torqueByDistances cX12_torqueByDistances 5 (some .int) 1 := ⟨kw 2384 (by decide +kernel) rfl, kw 2383 (by decide +kernel) rfl, kw 149 (by decide +kernel) rfl, ⟨by decide, by decide, by decide +kernel⟩, Nat.le_of_ble_eq_true rfl⟩
theorem lk_X12_wrongSeats : kLk yX12_wrongSeats cX12_wrongSeats 4 (some .int) 1 := ⟨kw 2392 (by decide +kernel) rfl, kw 2391 (by decide +kernel) rfl, kw 149 (by decide +kernel) rfl, ⟨by decide, by decide, by decide +kernel⟩, Nat.le_of_ble_eq_true rfl⟩
theorem lk_X12_ofEvent : kLk yX12_ofEvent cX12_ofEvent 3 (some .int) 2 := ⟨kw 2400 (by decide +kernel) rfl, kw 2399 (by decide +kernel) rfl, kw 149 (by decide +kernel) rfl, ⟨by decide, by decide, by decide +kernel⟩, Nat.le_of_ble_eq_true rfl⟩
theorem lk_X12_behind : kLk yX12_behind cX12_behind 5 (some .int) 2 := ⟨kw 2417 (by decide +kernel) rfl, kw 2416 (by decide +kernel) rfl, kw 149 (by decide +kernel) rfl, ⟨by decide, by decide, by decide +kernel⟩, Nat.le_of_ble_eq_true rfl⟩
theorem lk_X12_writes : kLk yX12_writes cX12_writes 2 none 1 := ⟨kw 2437 (by decide +kernel) rfl, kw 2436 (by decide +kernel) rfl, kw 149 (by decide +kernel) rfl, ⟨by decide, by decide, by decide +kernel⟩, Nat.le_of_ble_eq_true rfl⟩
theorem lk_X12_writesSeat : kLk yX12_writesSeat cX12_writesSeat 5 none 2 := ⟨kw 2441 (by decide +kernel) rfl, kw 2440 (by decide +kernel) rfl, kw 149 (by decide +kernel) rfl, ⟨by decide, by decide, by decide +kernel⟩, Nat.le_of_ble_eq_true rfl⟩
