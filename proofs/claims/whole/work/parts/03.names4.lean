theorem dX6_add_29 : decode cX6_add 29 = .ok (.iadd, 1) := by decide +kernel
theorem dX6_add_30 : decode cX6_add 30 = .ok (.baload, 1) := by decide +kernel
theorem dX6_add_31 : decode cX6_add 31 = .ok (.ifCond .eq 5, 3) := by decide +kernel
theorem dX6_add_34 : decode cX6_add 34 = .ok (.iconst (-1), 1) := by decide +kernel
theorem dX6_add_35 : decode cX6_add 35 = .ok (.ireturn, 1) := by decide +kernel
theorem dX6_add_36 : decode cX6_add 36 = .ok (.aload_n 0, 1) := by decide +kernel
theorem dX6_add_37 : decode cX6_add 37 = .ok (.iload_n 1, 1) := by decide +kernel
theorem dX6_add_38 : decode cX6_add 38 = .ok (.iload_n 2, 1) := by decide +kernel
theorem dX6_add_39 : decode cX6_add 39 = .ok (.invokevirtual 161, 3) := by decide +kernel
theorem dX6_add_42 : decode cX6_add 42 = .ok (.istore_n 3, 1) := by decide +kernel
theorem dX6_add_43 : decode cX6_add 43 = .ok (.aload_n 0, 1) := by decide +kernel
theorem dX6_add_44 : decode cX6_add 44 = .ok (.getfield 148, 3) := by decide +kernel
theorem dX6_add_47 : decode cX6_add 47 = .ok (.istore 4, 2) := by decide +kernel
theorem dX6_add_49 : decode cX6_add 49 = .ok (.bipush 64, 2) := by decide +kernel
theorem dX6_add_51 : decode cX6_add 51 = .ok (.iload_n 1, 1) := by decide +kernel
theorem dX6_add_52 : decode cX6_add 52 = .ok (.imul, 1) := by decide +kernel
theorem dX6_add_53 : decode cX6_add 53 = .ok (.iload_n 2, 1) := by decide +kernel
theorem dX6_add_54 : decode cX6_add 54 = .ok (.iadd, 1) := by decide +kernel
theorem dX6_add_55 : decode cX6_add 55 = .ok (.istore 5, 2) := by decide +kernel
theorem dX6_add_57 : decode cX6_add 57 = .ok (.aload_n 0, 1) := by decide +kernel
theorem dX6_add_58 : decode cX6_add 58 = .ok (.getfield 25, 3) := by decide +kernel
theorem dX6_add_61 : decode cX6_add 61 = .ok (.iload 5, 2) := by decide +kernel
theorem dX6_add_63 : decode cX6_add 63 = .ok (.iconst 1, 1) := by decide +kernel
theorem dX6_add_64 : decode cX6_add 64 = .ok (.bastore, 1) := by decide +kernel
theorem dX6_add_65 : decode cX6_add 65 = .ok (.aload_n 0, 1) := by decide +kernel
theorem dX6_add_66 : decode cX6_add 66 = .ok (.getfield 19, 3) := by decide +kernel
theorem dX6_add_69 : decode cX6_add 69 = .ok (.iload 5, 2) := by decide +kernel
theorem dX6_add_71 : decode cX6_add 71 = .ok (.iconst (-1), 1) := by decide +kernel
theorem dX6_add_72 : decode cX6_add 72 = .ok (.iastore, 1) := by decide +kernel
theorem dX6_add_73 : decode cX6_add 73 = .ok (.aload_n 0, 1) := by decide +kernel
theorem dX6_add_74 : decode cX6_add 74 = .ok (.getfield 22, 3) := by decide +kernel
theorem dX6_add_77 : decode cX6_add 77 = .ok (.iload 5, 2) := by decide +kernel
theorem dX6_add_79 : decode cX6_add 79 = .ok (.iconst (-1), 1) := by decide +kernel
theorem dX6_add_80 : decode cX6_add 80 = .ok (.iastore, 1) := by decide +kernel
theorem dX6_add_81 : decode cX6_add 81 = .ok (.aload_n 0, 1) := by decide +kernel
theorem dX6_add_82 : decode cX6_add 82 = .ok (.getfield 16, 3) := by decide +kernel
theorem dX6_add_85 : decode cX6_add 85 = .ok (.iload 5, 2) := by decide +kernel
theorem dX6_add_87 : decode cX6_add 87 = .ok (.iconst (-1), 1) := by decide +kernel
theorem dX6_add_88 : decode cX6_add 88 = .ok (.iastore, 1) := by decide +kernel
theorem dX6_add_89 : decode cX6_add 89 = .ok (.aload_n 0, 1) := by decide +kernel
theorem dX6_add_90 : decode cX6_add 90 = .ok (.getfield 29, 3) := by decide +kernel
theorem dX6_add_93 : decode cX6_add 93 = .ok (.iload_n 1, 1) := by decide +kernel
theorem dX6_add_94 : decode cX6_add 94 = .ok (.dup2, 1) := by decide +kernel
theorem dX6_add_95 : decode cX6_add 95 = .ok (.iaload, 1) := by decide +kernel
theorem dX6_add_96 : decode cX6_add 96 = .ok (.iconst 1, 1) := by decide +kernel
theorem dX6_add_97 : decode cX6_add 97 = .ok (.iadd, 1) := by decide +kernel
theorem dX6_add_98 : decode cX6_add 98 = .ok (.iastore, 1) := by decide +kernel
theorem dX6_add_99 : decode cX6_add 99 = .ok (.aload_n 0, 1) := by decide +kernel
theorem dX6_add_100 : decode cX6_add 100 = .ok (.getfield 151, 3) := by decide +kernel
theorem dX6_add_103 : decode cX6_add 103 = .ok (.ifCond .ge 13, 3) := by decide +kernel
theorem dX6_add_106 : decode cX6_add 106 = .ok (.aload_n 0, 1) := by decide +kernel
theorem dX6_add_107 : decode cX6_add 107 = .ok (.getfield 13, 3) := by decide +kernel
theorem dX6_add_110 : decode cX6_add 110 = .ok (.iload_n 1, 1) := by decide +kernel
theorem dX6_add_111 : decode cX6_add 111 = .ok (.iload_n 2, 1) := by decide +kernel
theorem dX6_add_112 : decode cX6_add 112 = .ok (.iastore, 1) := by decide +kernel
theorem dX6_add_113 : decode cX6_add 113 = .ok (.goto 34, 3) := by decide +kernel
theorem dX6_add_116 : decode cX6_add 116 = .ok (.iload_n 2, 1) := by decide +kernel
theorem dX6_add_117 : decode cX6_add 117 = .ok (.aload_n 0, 1) := by decide +kernel
theorem dX6_add_118 : decode cX6_add 118 = .ok (.getfield 151, 3) := by decide +kernel
theorem dX6_add_121 : decode cX6_add 121 = .ok (.if_icmp .ge 16, 3) := by decide +kernel
theorem dX6_add_124 : decode cX6_add 124 = .ok (.aload_n 0, 1) := by decide +kernel
theorem dX6_add_125 : decode cX6_add 125 = .ok (.iload_n 1, 1) := by decide +kernel
theorem dX6_add_126 : decode cX6_add 126 = .ok (.iload_n 2, 1) := by decide +kernel
theorem dX6_add_127 : decode cX6_add 127 = .ok (.aload_n 0, 1) := by decide +kernel
theorem dX6_add_128 : decode cX6_add 128 = .ok (.getfield 151, 3) := by decide +kernel
theorem dX6_add_131 : decode cX6_add 131 = .ok (.invokevirtual 96, 3) := by decide +kernel
theorem dX6_add_134 : decode cX6_add 134 = .ok (.goto 13, 3) := by decide +kernel
theorem dX6_add_137 : decode cX6_add 137 = .ok (.aload_n 0, 1) := by decide +kernel
theorem dX6_add_138 : decode cX6_add 138 = .ok (.iload_n 1, 1) := by decide +kernel
theorem dX6_add_139 : decode cX6_add 139 = .ok (.iload_n 2, 1) := by decide +kernel
theorem dX6_add_140 : decode cX6_add 140 = .ok (.aload_n 0, 1) := by decide +kernel
theorem dX6_add_141 : decode cX6_add 141 = .ok (.getfield 151, 3) := by decide +kernel
theorem dX6_add_144 : decode cX6_add 144 = .ok (.invokevirtual 99, 3) := by decide +kernel
theorem dX6_add_147 : decode cX6_add 147 = .ok (.aload_n 0, 1) := by decide +kernel
theorem dX6_add_148 : decode cX6_add 148 = .ok (.iload_n 1, 1) := by decide +kernel
theorem dX6_add_149 : decode cX6_add 149 = .ok (.iload_n 2, 1) := by decide +kernel
theorem dX6_add_150 : decode cX6_add 150 = .ok (.invokevirtual 164, 3) := by decide +kernel
theorem dX6_add_153 : decode cX6_add 153 = .ok (.iload 4, 2) := by decide +kernel
theorem dX6_add_155 : decode cX6_add 155 = .ok (.ireturn, 1) := by decide +kernel
set_option maxRecDepth 20000 in
theorem ggX6_ask_X6_isTree : GoodIn wsX6_ask wsX6_isTree := goodIn_r _ [11, 12, 54, 55, 56, 57, 58, 59, 60, 61, 62, 63, 64, 65, 66, 67, 68, 69, 70, 71, 72, 73, 74, 75, 76, 77, 78, 79, 80, 81] (by decide +kernel) (by decide +kernel)
set_option maxRecDepth 20000 in
theorem gX6_ask_X6_isTree : GoodIn wsX6_ask (wsV RX6 154 RX6 yX6_isTree wsX6_isTree) := goodIn_app (goodIn_of _ (by decide +kernel)) ggX6_ask_X6_isTree
set_option maxRecDepth 20000 in
theorem ggX6_ask_X6_isKey : GoodIn wsX6_ask wsX6_isKey := goodIn_r _ [15] (by decide +kernel) (by decide +kernel)
set_option maxRecDepth 20000 in
theorem gX6_ask_X6_isKey : GoodIn wsX6_ask (va_wsS RX6 158 yX6_isKey wsX6_isKey) := goodIn_app (goodIn_of _ (by decide +kernel)) ggX6_ask_X6_isKey
set_option maxRecDepth 20000 in
theorem ggX6_ask_X6_goes : GoodIn wsX6_ask wsX6_goes := goodIn_r _ [19, 3, 6, 20, 21, 22, 54, 55, 56, 57, 58, 59, 60, 61, 62, 63, 64, 65, 66, 67, 68, 69, 70, 71, 72, 73, 74, 75, 76, 77, 78, 79, 80, 81] (by decide +kernel) (by decide +kernel)
set_option maxRecDepth 20000 in
theorem gX6_ask_X6_goes : GoodIn wsX6_ask (wsV RX6 161 RX6 yX6_goes wsX6_goes) := goodIn_app (goodIn_of _ (by decide +kernel)) ggX6_ask_X6_goes
set_option maxRecDepth 20000 in
theorem ggX6_ask_X6_acts : GoodIn wsX6_ask wsX6_acts := goodIn_r _ [26, 27, 28, 29, 30, 31, 10, 32, 33, 34, 35, 36, 22, 21, 37, 38, 39, 40, 41, 20, 42, 43, 44, 45, 46, 47, 48, 49, 50, 51, 52, 53, 54, 55, 56, 57, 58, 59, 60, 61, 62, 63, 64, 65, 66, 67, 68, 69, 70, 71, 72, 73, 74, 75, 76, 77, 78, 79, 80, 81] (by decide +kernel) (by decide +kernel)
set_option maxRecDepth 20000 in
theorem gX6_ask_X6_acts : GoodIn wsX6_ask (wsV RX6 112 RX6 yX6_acts wsX6_acts) := goodIn_app (goodIn_of _ (by decide +kernel)) ggX6_ask_X6_acts
theorem dX6_ask_0 : decode cX6_ask 0 = .ok (.aload_n 0, 1) := by decide +kernel
theorem dX6_ask_1 : decode cX6_ask 1 = .ok (.aload_n 0, 1) := by decide +kernel
theorem dX6_ask_2 : decode cX6_ask 2 = .ok (.iload_n 1, 1) := by decide +kernel
theorem dX6_ask_3 : decode cX6_ask 3 = .ok (.invokevirtual 154, 3) := by decide +kernel
theorem dX6_ask_6 : decode cX6_ask 6 = .ok (.ifCond .eq 14, 3) := by decide +kernel
theorem dX6_ask_9 : decode cX6_ask 9 = .ok (.iload_n 2, 1) := by decide +kernel
theorem dX6_ask_10 : decode cX6_ask 10 = .ok (.invokestatic 158, 3) := by decide +kernel
theorem dX6_ask_13 : decode cX6_ask 13 = .ok (.ifCond .eq 7, 3) := by decide +kernel
theorem dX6_ask_16 : decode cX6_ask 16 = .ok (.iconst 0, 1) := by decide +kernel
theorem dX6_ask_17 : decode cX6_ask 17 = .ok (.goto 4, 3) := by decide +kernel
theorem dX6_ask_20 : decode cX6_ask 20 = .ok (.iconst 1, 1) := by decide +kernel
theorem dX6_ask_21 : decode cX6_ask 21 = .ok (.putfield 77, 3) := by decide +kernel
theorem dX6_ask_24 : decode cX6_ask 24 = .ok (.aload_n 0, 1) := by decide +kernel
theorem dX6_ask_25 : decode cX6_ask 25 = .ok (.getfield 77, 3) := by decide +kernel
theorem dX6_ask_28 : decode cX6_ask 28 = .ok (.ifCond .le 5, 3) := by decide +kernel
theorem dX6_ask_31 : decode cX6_ask 31 = .ok (.iconst 0, 1) := by decide +kernel
theorem dX6_ask_32 : decode cX6_ask 32 = .ok (.ireturn, 1) := by decide +kernel
theorem dX6_ask_33 : decode cX6_ask 33 = .ok (.aload_n 0, 1) := by decide +kernel
theorem dX6_ask_34 : decode cX6_ask 34 = .ok (.iload_n 1, 1) := by decide +kernel
theorem dX6_ask_35 : decode cX6_ask 35 = .ok (.iload_n 2, 1) := by decide +kernel
theorem dX6_ask_36 : decode cX6_ask 36 = .ok (.invokevirtual 161, 3) := by decide +kernel
theorem dX6_ask_39 : decode cX6_ask 39 = .ok (.istore_n 3, 1) := by decide +kernel
theorem dX6_ask_40 : decode cX6_ask 40 = .ok (.aload_n 0, 1) := by decide +kernel
theorem dX6_ask_41 : decode cX6_ask 41 = .ok (.getfield 35, 3) := by decide +kernel
theorem dX6_ask_44 : decode cX6_ask 44 = .ok (.iload_n 1, 1) := by decide +kernel
theorem dX6_ask_45 : decode cX6_ask 45 = .ok (.dup2, 1) := by decide +kernel
theorem dX6_ask_46 : decode cX6_ask 46 = .ok (.iaload, 1) := by decide +kernel
theorem dX6_ask_47 : decode cX6_ask 47 = .ok (.aload_n 0, 1) := by decide +kernel
theorem dX6_ask_48 : decode cX6_ask 48 = .ok (.getfield 148, 3) := by decide +kernel
theorem dX6_ask_51 : decode cX6_ask 51 = .ok (.iadd, 1) := by decide +kernel
theorem dX6_ask_52 : decode cX6_ask 52 = .ok (.iastore, 1) := by decide +kernel
theorem dX6_ask_53 : decode cX6_ask 53 = .ok (.aload_n 0, 1) := by decide +kernel
theorem dX6_ask_54 : decode cX6_ask 54 = .ok (.getfield 41, 3) := by decide +kernel
theorem dX6_ask_57 : decode cX6_ask 57 = .ok (.iload_n 1, 1) := by decide +kernel
theorem dX6_ask_58 : decode cX6_ask 58 = .ok (.iaload, 1) := by decide +kernel
theorem dX6_ask_59 : decode cX6_ask 59 = .ok (.bipush 100, 2) := by decide +kernel
theorem dX6_ask_61 : decode cX6_ask 61 = .ok (.if_icmp .ge 30, 3) := by decide +kernel
theorem dX6_ask_64 : decode cX6_ask 64 = .ok (.aload_n 0, 1) := by decide +kernel
theorem dX6_ask_65 : decode cX6_ask 65 = .ok (.getfield 44, 3) := by decide +kernel
theorem dX6_ask_68 : decode cX6_ask 68 = .ok (.bipush 100, 2) := by decide +kernel
theorem dX6_ask_70 : decode cX6_ask 70 = .ok (.iload_n 1, 1) := by decide +kernel
theorem dX6_ask_71 : decode cX6_ask 71 = .ok (.imul, 1) := by decide +kernel
theorem dX6_ask_72 : decode cX6_ask 72 = .ok (.aload_n 0, 1) := by decide +kernel
theorem dX6_ask_73 : decode cX6_ask 73 = .ok (.getfield 41, 3) := by decide +kernel
theorem dX6_ask_76 : decode cX6_ask 76 = .ok (.iload_n 1, 1) := by decide +kernel
theorem dX6_ask_77 : decode cX6_ask 77 = .ok (.iaload, 1) := by decide +kernel
theorem dX6_ask_78 : decode cX6_ask 78 = .ok (.iadd, 1) := by decide +kernel
theorem dX6_ask_79 : decode cX6_ask 79 = .ok (.iload_n 2, 1) := by decide +kernel
theorem dX6_ask_80 : decode cX6_ask 80 = .ok (.iastore, 1) := by decide +kernel
theorem dX6_ask_81 : decode cX6_ask 81 = .ok (.aload_n 0, 1) := by decide +kernel
theorem dX6_ask_82 : decode cX6_ask 82 = .ok (.getfield 41, 3) := by decide +kernel
theorem dX6_ask_85 : decode cX6_ask 85 = .ok (.iload_n 1, 1) := by decide +kernel
theorem dX6_ask_86 : decode cX6_ask 86 = .ok (.dup2, 1) := by decide +kernel
theorem dX6_ask_87 : decode cX6_ask 87 = .ok (.iaload, 1) := by decide +kernel
theorem dX6_ask_88 : decode cX6_ask 88 = .ok (.iconst 1, 1) := by decide +kernel
theorem dX6_ask_89 : decode cX6_ask 89 = .ok (.iadd, 1) := by decide +kernel
theorem dX6_ask_90 : decode cX6_ask 90 = .ok (.iastore, 1) := by decide +kernel
theorem dX6_ask_91 : decode cX6_ask 91 = .ok (.aload_n 0, 1) := by decide +kernel
theorem dX6_ask_92 : decode cX6_ask 92 = .ok (.getfield 151, 3) := by decide +kernel
theorem dX6_ask_95 : decode cX6_ask 95 = .ok (.ifCond .lt 12, 3) := by decide +kernel
theorem dX6_ask_98 : decode cX6_ask 98 = .ok (.aload_n 0, 1) := by decide +kernel
theorem dX6_ask_99 : decode cX6_ask 99 = .ok (.iload_n 1, 1) := by decide +kernel
theorem dX6_ask_100 : decode cX6_ask 100 = .ok (.aload_n 0, 1) := by decide +kernel
theorem dX6_ask_101 : decode cX6_ask 101 = .ok (.getfield 151, 3) := by decide +kernel
theorem dX6_ask_104 : decode cX6_ask 104 = .ok (.invokevirtual 112, 3) := by decide +kernel
theorem dX6_ask_107 : decode cX6_ask 107 = .ok (.iload_n 3, 1) := by decide +kernel
theorem dX6_ask_108 : decode cX6_ask 108 = .ok (.ifCond .eq 10, 3) := by decide +kernel
theorem dX6_ask_111 : decode cX6_ask 111 = .ok (.aload_n 0, 1) := by decide +kernel
theorem dX6_ask_112 : decode cX6_ask 112 = .ok (.getfield 148, 3) := by decide +kernel
theorem dX6_ask_115 : decode cX6_ask 115 = .ok (.goto 8, 3) := by decide +kernel
theorem dX6_ask_118 : decode cX6_ask 118 = .ok (.aload_n 0, 1) := by decide +kernel
theorem dX6_ask_119 : decode cX6_ask 119 = .ok (.getfield 148, 3) := by decide +kernel
theorem dX6_ask_122 : decode cX6_ask 122 = .ok (.ineg, 1) := by decide +kernel
theorem dX6_ask_123 : decode cX6_ask 123 = .ok (.ireturn, 1) := by decide +kernel
set_option maxRecDepth 20000 in
theorem ggX6_heir_X6_weight : GoodIn wsX6_heir wsX6_weight := goodIn_r _ [7] (by decide +kernel) (by decide +kernel)
set_option maxRecDepth 20000 in
theorem gX6_heir_X6_weight : GoodIn wsX6_heir (va_wsS RX6 118 yX6_weight wsX6_weight) := goodIn_app (goodIn_of _ (by decide +kernel)) ggX6_heir_X6_weight
set_option maxRecDepth 20000 in
theorem ggX6_heir_X6_sizeOf : GoodIn wsX6_heir wsX6_sizeOf := goodIn_r _ [11, 1, 2, 8, 9, 10, 6, 12, 13, 14, 15, 16, 17, 18, 19, 20, 21, 22, 23, 24, 25, 26, 27, 28, 29, 30, 31, 32, 33, 34, 35, 36, 37, 38, 39] (by decide +kernel) (by decide +kernel)
set_option maxRecDepth 20000 in
theorem gX6_heir_X6_sizeOf : GoodIn wsX6_heir (wsV RX6 88 RX6 yX6_sizeOf wsX6_sizeOf) := goodIn_app (goodIn_of _ (by decide +kernel)) ggX6_heir_X6_sizeOf
theorem dX6_heir_0 : decode cX6_heir 0 = .ok (.aload_n 0, 1) := by decide +kernel
theorem dX6_heir_1 : decode cX6_heir 1 = .ok (.getfield 19, 3) := by decide +kernel
theorem dX6_heir_4 : decode cX6_heir 4 = .ok (.bipush 64, 2) := by decide +kernel
theorem dX6_heir_6 : decode cX6_heir 6 = .ok (.iload_n 1, 1) := by decide +kernel
theorem dX6_heir_7 : decode cX6_heir 7 = .ok (.imul, 1) := by decide +kernel
theorem dX6_heir_8 : decode cX6_heir 8 = .ok (.iload_n 2, 1) := by decide +kernel
theorem dX6_heir_9 : decode cX6_heir 9 = .ok (.iadd, 1) := by decide +kernel
theorem dX6_heir_10 : decode cX6_heir 10 = .ok (.iaload, 1) := by decide +kernel
theorem dX6_heir_11 : decode cX6_heir 11 = .ok (.istore_n 3, 1) := by decide +kernel
theorem dX6_heir_12 : decode cX6_heir 12 = .ok (.aload_n 0, 1) := by decide +kernel
theorem dX6_heir_13 : decode cX6_heir 13 = .ok (.getfield 22, 3) := by decide +kernel
theorem dX6_heir_16 : decode cX6_heir 16 = .ok (.bipush 64, 2) := by decide +kernel
theorem dX6_heir_18 : decode cX6_heir 18 = .ok (.iload_n 1, 1) := by decide +kernel
theorem dX6_heir_19 : decode cX6_heir 19 = .ok (.imul, 1) := by decide +kernel
theorem dX6_heir_20 : decode cX6_heir 20 = .ok (.iload_n 2, 1) := by decide +kernel
theorem dX6_heir_21 : decode cX6_heir 21 = .ok (.iadd, 1) := by decide +kernel
theorem dX6_heir_22 : decode cX6_heir 22 = .ok (.iaload, 1) := by decide +kernel
theorem dX6_heir_23 : decode cX6_heir 23 = .ok (.istore 4, 2) := by decide +kernel
theorem dX6_heir_25 : decode cX6_heir 25 = .ok (.iload_n 3, 1) := by decide +kernel
theorem dX6_heir_26 : decode cX6_heir 26 = .ok (.ifCond .lt 8, 3) := by decide +kernel
theorem dX6_heir_29 : decode cX6_heir 29 = .ok (.iload 4, 2) := by decide +kernel
theorem dX6_heir_31 : decode cX6_heir 31 = .ok (.ifCond .ge 14, 3) := by decide +kernel
theorem dX6_heir_34 : decode cX6_heir 34 = .ok (.iload_n 3, 1) := by decide +kernel
theorem dX6_heir_35 : decode cX6_heir 35 = .ok (.ifCond .ge 8, 3) := by decide +kernel
theorem dX6_heir_38 : decode cX6_heir 38 = .ok (.iload 4, 2) := by decide +kernel
theorem dX6_heir_40 : decode cX6_heir 40 = .ok (.goto 4, 3) := by decide +kernel
theorem dX6_heir_43 : decode cX6_heir 43 = .ok (.iload_n 3, 1) := by decide +kernel
theorem dX6_heir_44 : decode cX6_heir 44 = .ok (.ireturn, 1) := by decide +kernel
theorem dX6_heir_45 : decode cX6_heir 45 = .ok (.aload_n 0, 1) := by decide +kernel
theorem dX6_heir_46 : decode cX6_heir 46 = .ok (.getfield 7, 3) := by decide +kernel
theorem dX6_heir_49 : decode cX6_heir 49 = .ok (.iload_n 1, 1) := by decide +kernel
theorem dX6_heir_50 : decode cX6_heir 50 = .ok (.iaload, 1) := by decide +kernel
theorem dX6_heir_51 : decode cX6_heir 51 = .ok (.iconst 5, 1) := by decide +kernel
theorem dX6_heir_52 : decode cX6_heir 52 = .ok (.if_icmp .ne 23, 3) := by decide +kernel
theorem dX6_heir_55 : decode cX6_heir 55 = .ok (.iload_n 3, 1) := by decide +kernel
theorem dX6_heir_56 : decode cX6_heir 56 = .ok (.invokestatic 118, 3) := by decide +kernel
theorem dX6_heir_59 : decode cX6_heir 59 = .ok (.iload 4, 2) := by decide +kernel
theorem dX6_heir_61 : decode cX6_heir 61 = .ok (.invokestatic 118, 3) := by decide +kernel
theorem dX6_heir_64 : decode cX6_heir 64 = .ok (.if_icmp .le 7, 3) := by decide +kernel
theorem dX6_heir_67 : decode cX6_heir 67 = .ok (.iconst 1, 1) := by decide +kernel
theorem dX6_heir_68 : decode cX6_heir 68 = .ok (.goto 28, 3) := by decide +kernel
theorem dX6_heir_71 : decode cX6_heir 71 = .ok (.iconst 0, 1) := by decide +kernel
theorem dX6_heir_72 : decode cX6_heir 72 = .ok (.goto 24, 3) := by decide +kernel
theorem dX6_heir_75 : decode cX6_heir 75 = .ok (.aload_n 0, 1) := by decide +kernel
theorem dX6_heir_76 : decode cX6_heir 76 = .ok (.iload_n 1, 1) := by decide +kernel
theorem dX6_heir_77 : decode cX6_heir 77 = .ok (.iload_n 3, 1) := by decide +kernel
theorem dX6_heir_78 : decode cX6_heir 78 = .ok (.invokevirtual 88, 3) := by decide +kernel
theorem dX6_heir_81 : decode cX6_heir 81 = .ok (.aload_n 0, 1) := by decide +kernel
theorem dX6_heir_82 : decode cX6_heir 82 = .ok (.iload_n 1, 1) := by decide +kernel
theorem dX6_heir_83 : decode cX6_heir 83 = .ok (.iload 4, 2) := by decide +kernel
theorem dX6_heir_85 : decode cX6_heir 85 = .ok (.invokevirtual 88, 3) := by decide +kernel
theorem dX6_heir_88 : decode cX6_heir 88 = .ok (.if_icmp .lt 7, 3) := by decide +kernel
theorem dX6_heir_91 : decode cX6_heir 91 = .ok (.iconst 1, 1) := by decide +kernel
theorem dX6_heir_92 : decode cX6_heir 92 = .ok (.goto 4, 3) := by decide +kernel
theorem dX6_heir_95 : decode cX6_heir 95 = .ok (.iconst 0, 1) := by decide +kernel
theorem dX6_heir_96 : decode cX6_heir 96 = .ok (.istore 5, 2) := by decide +kernel
theorem dX6_heir_98 : decode cX6_heir 98 = .ok (.iload 5, 2) := by decide +kernel
theorem dX6_heir_100 : decode cX6_heir 100 = .ok (.ifCond .eq 7, 3) := by decide +kernel
theorem dX6_heir_103 : decode cX6_heir 103 = .ok (.iload_n 3, 1) := by decide +kernel
theorem dX6_heir_104 : decode cX6_heir 104 = .ok (.goto 5, 3) := by decide +kernel
theorem dX6_heir_107 : decode cX6_heir 107 = .ok (.iload 4, 2) := by decide +kernel
theorem dX6_heir_109 : decode cX6_heir 109 = .ok (.ireturn, 1) := by decide +kernel
set_option maxRecDepth 20000 in
theorem ggX6_remove_X6_isTree : GoodIn wsX6_remove wsX6_isTree := goodIn_r _ [14, 15, 79, 80, 81, 82, 83, 84, 85, 86, 87, 88, 89, 90, 91, 92, 93, 94, 95, 96, 97, 98, 99, 100, 101, 102, 103, 104, 105, 106] (by decide +kernel) (by decide +kernel)
set_option maxRecDepth 20000 in
theorem gX6_remove_X6_isTree : GoodIn wsX6_remove (wsV RX6 154 RX6 yX6_isTree wsX6_isTree) := goodIn_app (goodIn_of _ (by decide +kernel)) ggX6_remove_X6_isTree
set_option maxRecDepth 20000 in
theorem ggX6_remove_X6_isKey : GoodIn wsX6_remove wsX6_isKey := goodIn_r _ [18] (by decide +kernel) (by decide +kernel)
set_option maxRecDepth 20000 in
theorem gX6_remove_X6_isKey : GoodIn wsX6_remove (va_wsS RX6 158 yX6_isKey wsX6_isKey) := goodIn_app (goodIn_of _ (by decide +kernel)) ggX6_remove_X6_isKey
set_option maxRecDepth 20000 in
theorem ggX6_remove_X6_goes : GoodIn wsX6_remove wsX6_goes := goodIn_r _ [22, 2, 3, 9, 23, 24, 79, 80, 81, 82, 83, 84, 85, 86, 87, 88, 89, 90, 91, 92, 93, 94, 95, 96, 97, 98, 99, 100, 101, 102, 103, 104, 105, 106] (by decide +kernel) (by decide +kernel)
set_option maxRecDepth 20000 in
theorem gX6_remove_X6_goes : GoodIn wsX6_remove (wsV RX6 161 RX6 yX6_goes wsX6_goes) := goodIn_app (goodIn_of _ (by decide +kernel)) ggX6_remove_X6_goes
set_option maxRecDepth 20000 in
theorem ggX6_remove_X6_acts : GoodIn wsX6_remove wsX6_acts := goodIn_r _ [28, 7, 4, 29, 30, 31, 13, 32, 33, 34, 35, 36, 24, 23, 37, 38, 39, 40, 41, 9, 42, 43, 44, 45, 46, 47, 48, 49, 50, 51, 52, 53, 79, 80, 81, 82, 83, 84, 85, 86, 87, 88, 89, 90, 91, 92, 93, 94, 95, 96, 97, 98, 99, 100, 101, 102, 103, 104, 105, 106] (by decide +kernel) (by decide +kernel)
set_option maxRecDepth 20000 in
theorem gX6_remove_X6_acts : GoodIn wsX6_remove (wsV RX6 112 RX6 yX6_acts wsX6_acts) := goodIn_app (goodIn_of _ (by decide +kernel)) ggX6_remove_X6_acts
set_option maxRecDepth 20000 in
theorem ggX6_remove_X6_heir : GoodIn wsX6_remove wsX6_heir := goodIn_r _ [57, 23, 24, 7, 58, 59, 13, 60, 61, 62, 63, 64, 79, 80, 81, 82, 83, 84, 85, 86, 87, 88, 89, 90, 91, 92, 93, 94, 95, 96, 97, 98, 99, 100, 101, 102, 103, 104, 105, 106] (by decide +kernel) (by decide +kernel)
set_option maxRecDepth 20000 in
theorem gX6_remove_X6_heir : GoodIn wsX6_remove (wsV RX6 167 RX6 yX6_heir wsX6_heir) := goodIn_app (goodIn_of _ (by decide +kernel)) ggX6_remove_X6_heir
set_option maxRecDepth 20000 in
theorem ggX6_remove_X6_turn : GoodIn wsX6_remove wsX6_turn := goodIn_r _ [36, 4, 24, 23, 37, 38, 39, 40, 13, 41, 9, 42, 43, 44, 45, 46, 47, 48, 49, 79, 80, 81, 82, 83, 84, 85, 86, 87, 88, 89, 90, 91, 92, 93, 94, 95, 96, 97, 98, 99, 100, 101, 102, 103, 104, 105, 106] (by decide +kernel) (by decide +kernel)
set_option maxRecDepth 20000 in
theorem gX6_remove_X6_turn : GoodIn wsX6_remove (wsV RX6 106 RX6 yX6_turn wsX6_turn) := goodIn_app (goodIn_of _ (by decide +kernel)) ggX6_remove_X6_turn
set_option maxRecDepth 20000 in
theorem ggX6_remove_X6_takesPlace : GoodIn wsX6_remove wsX6_takesPlace := goodIn_r _ [41, 4, 9, 23, 24, 79, 80, 81, 82, 83, 84, 85, 86, 87, 88, 89, 90, 91, 92, 93, 94, 95, 96, 97, 98, 99, 100, 101, 102, 103, 104, 105, 106] (by decide +kernel) (by decide +kernel)
set_option maxRecDepth 20000 in
theorem gX6_remove_X6_takesPlace : GoodIn wsX6_remove (wsV RX6 92 RX6 yX6_takesPlace wsX6_takesPlace) := goodIn_app (goodIn_of _ (by decide +kernel)) ggX6_remove_X6_takesPlace
set_option maxRecDepth 20000 in
theorem ggX6_remove_X6_makesEven : GoodIn wsX6_remove wsX6_makesEven := goodIn_r _ [68, 4, 23, 69, 9, 8, 6, 24, 70, 71, 72, 13, 73, 74, 75, 76, 77, 78, 42, 43, 44, 45, 46, 47, 48, 49, 79, 80, 81, 82, 83, 84, 85, 86, 87, 88, 89, 90, 91, 92, 93, 94, 95, 96, 97, 98, 99, 100, 101, 102, 103, 104, 105, 106] (by decide +kernel) (by decide +kernel)
set_option maxRecDepth 20000 in
theorem gX6_remove_X6_makesEven : GoodIn wsX6_remove (wsV RX6 135 RX6 yX6_makesEven wsX6_makesEven) := goodIn_app (goodIn_of _ (by decide +kernel)) ggX6_remove_X6_makesEven
theorem dX6_remove_0 : decode cX6_remove 0 = .ok (.aload_n 0, 1) := by decide +kernel
theorem dX6_remove_1 : decode cX6_remove 1 = .ok (.aload_n 0, 1) := by decide +kernel
theorem dX6_remove_2 : decode cX6_remove 2 = .ok (.iload_n 1, 1) := by decide +kernel
theorem dX6_remove_3 : decode cX6_remove 3 = .ok (.invokevirtual 154, 3) := by decide +kernel
theorem dX6_remove_6 : decode cX6_remove 6 = .ok (.ifCond .eq 14, 3) := by decide +kernel
theorem dX6_remove_9 : decode cX6_remove 9 = .ok (.iload_n 2, 1) := by decide +kernel
theorem dX6_remove_10 : decode cX6_remove 10 = .ok (.invokestatic 158, 3) := by decide +kernel
theorem dX6_remove_13 : decode cX6_remove 13 = .ok (.ifCond .eq 7, 3) := by decide +kernel
theorem dX6_remove_16 : decode cX6_remove 16 = .ok (.iconst 0, 1) := by decide +kernel
theorem dX6_remove_17 : decode cX6_remove 17 = .ok (.goto 4, 3) := by decide +kernel
theorem dX6_remove_20 : decode cX6_remove 20 = .ok (.iconst 1, 1) := by decide +kernel
theorem dX6_remove_21 : decode cX6_remove 21 = .ok (.putfield 77, 3) := by decide +kernel
theorem dX6_remove_24 : decode cX6_remove 24 = .ok (.aload_n 0, 1) := by decide +kernel
theorem dX6_remove_25 : decode cX6_remove 25 = .ok (.getfield 77, 3) := by decide +kernel
theorem dX6_remove_28 : decode cX6_remove 28 = .ok (.ifCond .le 5, 3) := by decide +kernel
theorem dX6_remove_31 : decode cX6_remove 31 = .ok (.iconst 0, 1) := by decide +kernel
theorem dX6_remove_32 : decode cX6_remove 32 = .ok (.ireturn, 1) := by decide +kernel
theorem dX6_remove_33 : decode cX6_remove 33 = .ok (.aload_n 0, 1) := by decide +kernel
theorem dX6_remove_34 : decode cX6_remove 34 = .ok (.iload_n 1, 1) := by decide +kernel
theorem dX6_remove_35 : decode cX6_remove 35 = .ok (.iload_n 2, 1) := by decide +kernel
theorem dX6_remove_36 : decode cX6_remove 36 = .ok (.invokevirtual 161, 3) := by decide +kernel
theorem dX6_remove_39 : decode cX6_remove 39 = .ok (.istore_n 3, 1) := by decide +kernel
theorem dX6_remove_40 : decode cX6_remove 40 = .ok (.aload_n 0, 1) := by decide +kernel
theorem dX6_remove_41 : decode cX6_remove 41 = .ok (.getfield 148, 3) := by decide +kernel
theorem dX6_remove_44 : decode cX6_remove 44 = .ok (.istore 4, 2) := by decide +kernel
theorem dX6_remove_46 : decode cX6_remove 46 = .ok (.iload_n 3, 1) := by decide +kernel
theorem dX6_remove_47 : decode cX6_remove 47 = .ok (.ifCond .ne 23, 3) := by decide +kernel
theorem dX6_remove_50 : decode cX6_remove 50 = .ok (.aload_n 0, 1) := by decide +kernel
theorem dX6_remove_51 : decode cX6_remove 51 = .ok (.getfield 151, 3) := by decide +kernel
theorem dX6_remove_54 : decode cX6_remove 54 = .ok (.ifCond .lt 12, 3) := by decide +kernel
theorem dX6_remove_57 : decode cX6_remove 57 = .ok (.aload_n 0, 1) := by decide +kernel
theorem dX6_remove_58 : decode cX6_remove 58 = .ok (.iload_n 1, 1) := by decide +kernel
theorem dX6_remove_59 : decode cX6_remove 59 = .ok (.aload_n 0, 1) := by decide +kernel
theorem dX6_remove_60 : decode cX6_remove 60 = .ok (.getfield 151, 3) := by decide +kernel
theorem dX6_remove_63 : decode cX6_remove 63 = .ok (.invokevirtual 112, 3) := by decide +kernel
theorem dX6_remove_66 : decode cX6_remove 66 = .ok (.iload 4, 2) := by decide +kernel
theorem dX6_remove_68 : decode cX6_remove 68 = .ok (.ineg, 1) := by decide +kernel
theorem dX6_remove_69 : decode cX6_remove 69 = .ok (.ireturn, 1) := by decide +kernel
theorem dX6_remove_70 : decode cX6_remove 70 = .ok (.aload_n 0, 1) := by decide +kernel
theorem dX6_remove_71 : decode cX6_remove 71 = .ok (.iload_n 1, 1) := by decide +kernel
theorem dX6_remove_72 : decode cX6_remove 72 = .ok (.iload_n 2, 1) := by decide +kernel
theorem dX6_remove_73 : decode cX6_remove 73 = .ok (.invokevirtual 167, 3) := by decide +kernel
theorem dX6_remove_76 : decode cX6_remove 76 = .ok (.istore 5, 2) := by decide +kernel
theorem dX6_remove_78 : decode cX6_remove 78 = .ok (.iload 5, 2) := by decide +kernel
theorem dX6_remove_80 : decode cX6_remove 80 = .ok (.ifCond .lt 21, 3) := by decide +kernel
theorem dX6_remove_83 : decode cX6_remove 83 = .ok (.aload_n 0, 1) := by decide +kernel
theorem dX6_remove_84 : decode cX6_remove 84 = .ok (.iload_n 1, 1) := by decide +kernel
theorem dX6_remove_85 : decode cX6_remove 85 = .ok (.iload 5, 2) := by decide +kernel
theorem dX6_remove_87 : decode cX6_remove 87 = .ok (.invokevirtual 106, 3) := by decide +kernel
theorem dX6_remove_90 : decode cX6_remove 90 = .ok (.aload_n 0, 1) := by decide +kernel
theorem dX6_remove_91 : decode cX6_remove 91 = .ok (.iload_n 1, 1) := by decide +kernel
theorem dX6_remove_92 : decode cX6_remove 92 = .ok (.iload_n 2, 1) := by decide +kernel
theorem dX6_remove_93 : decode cX6_remove 93 = .ok (.invokevirtual 167, 3) := by decide +kernel
theorem dX6_remove_96 : decode cX6_remove 96 = .ok (.istore 5, 2) := by decide +kernel
theorem dX6_remove_98 : decode cX6_remove 98 = .ok (.goto (-20), 3) := by decide +kernel
theorem dX6_remove_101 : decode cX6_remove 101 = .ok (.aload_n 0, 1) := by decide +kernel
theorem dX6_remove_102 : decode cX6_remove 102 = .ok (.getfield 16, 3) := by decide +kernel
theorem dX6_remove_105 : decode cX6_remove 105 = .ok (.bipush 64, 2) := by decide +kernel
theorem dX6_remove_107 : decode cX6_remove 107 = .ok (.iload_n 1, 1) := by decide +kernel
theorem dX6_remove_108 : decode cX6_remove 108 = .ok (.imul, 1) := by decide +kernel
theorem dX6_remove_109 : decode cX6_remove 109 = .ok (.iload_n 2, 1) := by decide +kernel
theorem dX6_remove_110 : decode cX6_remove 110 = .ok (.iadd, 1) := by decide +kernel
theorem dX6_remove_111 : decode cX6_remove 111 = .ok (.iaload, 1) := by decide +kernel
theorem dX6_remove_112 : decode cX6_remove 112 = .ok (.istore 5, 2) := by decide +kernel
theorem dX6_remove_114 : decode cX6_remove 114 = .ok (.aload_n 0, 1) := by decide +kernel
theorem dX6_remove_115 : decode cX6_remove 115 = .ok (.iload_n 1, 1) := by decide +kernel
theorem dX6_remove_116 : decode cX6_remove 116 = .ok (.iload_n 2, 1) := by decide +kernel
theorem dX6_remove_117 : decode cX6_remove 117 = .ok (.iconst (-1), 1) := by decide +kernel
theorem dX6_remove_118 : decode cX6_remove 118 = .ok (.invokevirtual 92, 3) := by decide +kernel
theorem dX6_remove_121 : decode cX6_remove 121 = .ok (.aload_n 0, 1) := by decide +kernel
theorem dX6_remove_122 : decode cX6_remove 122 = .ok (.getfield 25, 3) := by decide +kernel
theorem dX6_remove_125 : decode cX6_remove 125 = .ok (.bipush 64, 2) := by decide +kernel
theorem dX6_remove_127 : decode cX6_remove 127 = .ok (.iload_n 1, 1) := by decide +kernel
theorem dX6_remove_128 : decode cX6_remove 128 = .ok (.imul, 1) := by decide +kernel
theorem dX6_remove_129 : decode cX6_remove 129 = .ok (.iload_n 2, 1) := by decide +kernel
theorem dX6_remove_130 : decode cX6_remove 130 = .ok (.iadd, 1) := by decide +kernel
theorem dX6_remove_131 : decode cX6_remove 131 = .ok (.iconst 0, 1) := by decide +kernel
theorem dX6_remove_132 : decode cX6_remove 132 = .ok (.bastore, 1) := by decide +kernel
theorem dX6_remove_133 : decode cX6_remove 133 = .ok (.aload_n 0, 1) := by decide +kernel
theorem dX6_remove_134 : decode cX6_remove 134 = .ok (.getfield 29, 3) := by decide +kernel
theorem dX6_remove_137 : decode cX6_remove 137 = .ok (.iload_n 1, 1) := by decide +kernel
theorem dX6_remove_138 : decode cX6_remove 138 = .ok (.dup2, 1) := by decide +kernel
theorem dX6_remove_139 : decode cX6_remove 139 = .ok (.iaload, 1) := by decide +kernel
theorem dX6_remove_140 : decode cX6_remove 140 = .ok (.iconst 1, 1) := by decide +kernel
theorem dX6_remove_141 : decode cX6_remove 141 = .ok (.isub, 1) := by decide +kernel
theorem dX6_remove_142 : decode cX6_remove 142 = .ok (.iastore, 1) := by decide +kernel
theorem dX6_remove_143 : decode cX6_remove 143 = .ok (.iload 5, 2) := by decide +kernel
theorem dX6_remove_145 : decode cX6_remove 145 = .ok (.ifCond .lt 10, 3) := by decide +kernel
theorem dX6_remove_148 : decode cX6_remove 148 = .ok (.aload_n 0, 1) := by decide +kernel
theorem dX6_remove_149 : decode cX6_remove 149 = .ok (.iload_n 1, 1) := by decide +kernel
theorem dX6_remove_150 : decode cX6_remove 150 = .ok (.iload 5, 2) := by decide +kernel
theorem dX6_remove_152 : decode cX6_remove 152 = .ok (.invokevirtual 112, 3) := by decide +kernel
theorem dX6_remove_155 : decode cX6_remove 155 = .ok (.aload_n 0, 1) := by decide +kernel
theorem dX6_remove_156 : decode cX6_remove 156 = .ok (.getfield 7, 3) := by decide +kernel
theorem dX6_remove_159 : decode cX6_remove 159 = .ok (.iload_n 1, 1) := by decide +kernel
theorem dX6_remove_160 : decode cX6_remove 160 = .ok (.iaload, 1) := by decide +kernel
theorem dX6_remove_161 : decode cX6_remove 161 = .ok (.iconst 4, 1) := by decide +kernel
theorem dX6_remove_162 : decode cX6_remove 162 = .ok (.if_icmp .ne 54, 3) := by decide +kernel
theorem dX6_remove_165 : decode cX6_remove 165 = .ok (.iconst 3, 1) := by decide +kernel
theorem dX6_remove_166 : decode cX6_remove 166 = .ok (.aload_n 0, 1) := by decide +kernel
theorem dX6_remove_167 : decode cX6_remove 167 = .ok (.getfield 29, 3) := by decide +kernel
theorem dX6_remove_170 : decode cX6_remove 170 = .ok (.iload_n 1, 1) := by decide +kernel
theorem dX6_remove_171 : decode cX6_remove 171 = .ok (.iaload, 1) := by decide +kernel
theorem dX6_remove_172 : decode cX6_remove 172 = .ok (.imul, 1) := by decide +kernel
theorem dX6_remove_173 : decode cX6_remove 173 = .ok (.iconst 2, 1) := by decide +kernel
theorem dX6_remove_174 : decode cX6_remove 174 = .ok (.aload_n 0, 1) := by decide +kernel
theorem dX6_remove_175 : decode cX6_remove 175 = .ok (.getfield 38, 3) := by decide +kernel
theorem dX6_remove_178 : decode cX6_remove 178 = .ok (.iload_n 1, 1) := by decide +kernel
theorem dX6_remove_179 : decode cX6_remove 179 = .ok (.iaload, 1) := by decide +kernel
theorem dX6_remove_180 : decode cX6_remove 180 = .ok (.imul, 1) := by decide +kernel
theorem dX6_remove_181 : decode cX6_remove 181 = .ok (.if_icmp .ge 35, 3) := by decide +kernel
theorem dX6_remove_184 : decode cX6_remove 184 = .ok (.aload_n 0, 1) := by decide +kernel
theorem dX6_remove_185 : decode cX6_remove 185 = .ok (.getfield 38, 3) := by decide +kernel
theorem dX6_remove_188 : decode cX6_remove 188 = .ok (.iload_n 1, 1) := by decide +kernel
theorem dX6_remove_189 : decode cX6_remove 189 = .ok (.aload_n 0, 1) := by decide +kernel
theorem dX6_remove_190 : decode cX6_remove 190 = .ok (.getfield 29, 3) := by decide +kernel
theorem dX6_remove_193 : decode cX6_remove 193 = .ok (.iload_n 1, 1) := by decide +kernel
theorem dX6_remove_194 : decode cX6_remove 194 = .ok (.iaload, 1) := by decide +kernel
theorem dX6_remove_195 : decode cX6_remove 195 = .ok (.iastore, 1) := by decide +kernel
theorem dX6_remove_196 : decode cX6_remove 196 = .ok (.aload_n 0, 1) := by decide +kernel
theorem dX6_remove_197 : decode cX6_remove 197 = .ok (.getfield 13, 3) := by decide +kernel
theorem dX6_remove_200 : decode cX6_remove 200 = .ok (.iload_n 1, 1) := by decide +kernel
theorem dX6_remove_201 : decode cX6_remove 201 = .ok (.iaload, 1) := by decide +kernel
theorem dX6_remove_202 : decode cX6_remove 202 = .ok (.ifCond .lt 14, 3) := by decide +kernel
theorem dX6_remove_205 : decode cX6_remove 205 = .ok (.aload_n 0, 1) := by decide +kernel
theorem dX6_remove_206 : decode cX6_remove 206 = .ok (.iload_n 1, 1) := by decide +kernel
theorem dX6_remove_207 : decode cX6_remove 207 = .ok (.aload_n 0, 1) := by decide +kernel
theorem dX6_remove_208 : decode cX6_remove 208 = .ok (.getfield 13, 3) := by decide +kernel
theorem dX6_remove_211 : decode cX6_remove 211 = .ok (.iload_n 1, 1) := by decide +kernel
theorem dX6_remove_212 : decode cX6_remove 212 = .ok (.iaload, 1) := by decide +kernel
theorem dX6_remove_213 : decode cX6_remove 213 = .ok (.invokevirtual 135, 3) := by decide +kernel
theorem dX6_remove_216 : decode cX6_remove 216 = .ok (.iload 4, 2) := by decide +kernel
theorem dX6_remove_218 : decode cX6_remove 218 = .ok (.ireturn, 1) := by decide +kernel
theorem dX6_nearest_0 : decode cX6_nearest 0 = .ok (.aload_n 0, 1) := by decide +kernel
theorem dX6_nearest_1 : decode cX6_nearest 1 = .ok (.getfield 16, 3) := by decide +kernel
theorem dX6_nearest_4 : decode cX6_nearest 4 = .ok (.bipush 64, 2) := by decide +kernel
theorem dX6_nearest_6 : decode cX6_nearest 6 = .ok (.iload_n 1, 1) := by decide +kernel
theorem dX6_nearest_7 : decode cX6_nearest 7 = .ok (.imul, 1) := by decide +kernel
theorem dX6_nearest_8 : decode cX6_nearest 8 = .ok (.iload_n 2, 1) := by decide +kernel
theorem dX6_nearest_9 : decode cX6_nearest 9 = .ok (.iadd, 1) := by decide +kernel
theorem dX6_nearest_10 : decode cX6_nearest 10 = .ok (.iaload, 1) := by decide +kernel
theorem dX6_nearest_11 : decode cX6_nearest 11 = .ok (.istore 4, 2) := by decide +kernel
theorem dX6_nearest_13 : decode cX6_nearest 13 = .ok (.iload 4, 2) := by decide +kernel
theorem dX6_nearest_15 : decode cX6_nearest 15 = .ok (.ifCond .lt 44, 3) := by decide +kernel
theorem dX6_nearest_18 : decode cX6_nearest 18 = .ok (.iload 4, 2) := by decide +kernel
theorem dX6_nearest_20 : decode cX6_nearest 20 = .ok (.iload_n 3, 1) := by decide +kernel
theorem dX6_nearest_21 : decode cX6_nearest 21 = .ok (.if_icmp .ge 7, 3) := by decide +kernel
theorem dX6_nearest_24 : decode cX6_nearest 24 = .ok (.iconst 1, 1) := by decide +kernel
theorem dX6_nearest_25 : decode cX6_nearest 25 = .ok (.goto 4, 3) := by decide +kernel
theorem dX6_nearest_28 : decode cX6_nearest 28 = .ok (.iconst 0, 1) := by decide +kernel
theorem dX6_nearest_29 : decode cX6_nearest 29 = .ok (.iload_n 2, 1) := by decide +kernel
theorem dX6_nearest_30 : decode cX6_nearest 30 = .ok (.iload_n 3, 1) := by decide +kernel
theorem dX6_nearest_31 : decode cX6_nearest 31 = .ok (.if_icmp .ge 7, 3) := by decide +kernel
theorem dX6_nearest_34 : decode cX6_nearest 34 = .ok (.iconst 1, 1) := by decide +kernel
theorem dX6_nearest_35 : decode cX6_nearest 35 = .ok (.goto 4, 3) := by decide +kernel
theorem dX6_nearest_38 : decode cX6_nearest 38 = .ok (.iconst 0, 1) := by decide +kernel
theorem dX6_nearest_39 : decode cX6_nearest 39 = .ok (.if_icmp .eq 20, 3) := by decide +kernel
theorem dX6_nearest_42 : decode cX6_nearest 42 = .ok (.aload_n 0, 1) := by decide +kernel
theorem dX6_nearest_43 : decode cX6_nearest 43 = .ok (.getfield 16, 3) := by decide +kernel
theorem dX6_nearest_46 : decode cX6_nearest 46 = .ok (.bipush 64, 2) := by decide +kernel
theorem dX6_nearest_48 : decode cX6_nearest 48 = .ok (.iload_n 1, 1) := by decide +kernel
theorem dX6_nearest_49 : decode cX6_nearest 49 = .ok (.imul, 1) := by decide +kernel
theorem dX6_nearest_50 : decode cX6_nearest 50 = .ok (.iload 4, 2) := by decide +kernel
theorem dX6_nearest_52 : decode cX6_nearest 52 = .ok (.iadd, 1) := by decide +kernel
theorem dX6_nearest_53 : decode cX6_nearest 53 = .ok (.iaload, 1) := by decide +kernel
theorem dX6_nearest_54 : decode cX6_nearest 54 = .ok (.istore 4, 2) := by decide +kernel
theorem dX6_nearest_56 : decode cX6_nearest 56 = .ok (.goto (-43), 3) := by decide +kernel
theorem dX6_nearest_59 : decode cX6_nearest 59 = .ok (.iload 4, 2) := by decide +kernel
theorem dX6_nearest_61 : decode cX6_nearest 61 = .ok (.ireturn, 1) := by decide +kernel
set_option maxRecDepth 20000 in
theorem ggX6_split_X6_isTree : GoodIn wsX6_split wsX6_isTree := goodIn_r _ [16, 2, 28, 29, 30, 31, 32, 33, 34, 35, 36, 37, 38, 39, 40, 41, 42, 43, 44, 45, 46, 47, 48, 49, 50, 51, 52, 53, 54, 55] (by decide +kernel) (by decide +kernel)
set_option maxRecDepth 20000 in
theorem gX6_split_X6_isTree : GoodIn wsX6_split (wsV RX6 154 RX6 yX6_isTree wsX6_isTree) := goodIn_app (goodIn_of _ (by decide +kernel)) ggX6_split_X6_isTree
set_option maxRecDepth 20000 in
theorem ggX6_split_X6_isKey : GoodIn wsX6_split wsX6_isKey := goodIn_r _ [19] (by decide +kernel) (by decide +kernel)
set_option maxRecDepth 20000 in
theorem gX6_split_X6_isKey : GoodIn wsX6_split (va_wsS RX6 158 yX6_isKey wsX6_isKey) := goodIn_app (goodIn_of _ (by decide +kernel)) ggX6_split_X6_isKey
set_option maxRecDepth 20000 in
theorem ggX6_split_X6_newTree : GoodIn wsX6_split wsX6_newTree := goodIn_r _ [23, 3, 2, 6, 28, 29, 30, 31, 32, 33, 34, 35, 36, 37, 38, 39, 40, 41, 42, 43, 44, 45, 46, 47, 48, 49, 50, 51, 52, 53, 54, 55] (by decide +kernel) (by decide +kernel)
set_option maxRecDepth 20000 in
theorem gX6_split_X6_newTree : GoodIn wsX6_split (wsV RX6 84 RX6 yX6_newTree wsX6_newTree) := goodIn_app (goodIn_of _ (by decide +kernel)) ggX6_split_X6_newTree
set_option maxRecDepth 20000 in
theorem ggX6_split_X6_nearest : GoodIn wsX6_split wsX6_nearest := goodIn_r _ [27, 10, 28, 29, 30, 31, 32, 33, 34, 35, 36, 37, 38, 39, 40, 41, 42, 43, 44, 45, 46, 47, 48, 49, 50, 51, 52, 53, 54, 55] (by decide +kernel) (by decide +kernel)
set_option maxRecDepth 20000 in
theorem gX6_split_X6_nearest : GoodIn wsX6_split (wsV RX6 170 RX6 yX6_nearest wsX6_nearest) := goodIn_app (goodIn_of _ (by decide +kernel)) ggX6_split_X6_nearest
theorem dX6_split_0 : decode cX6_split 0 = .ok (.aload_n 0, 1) := by decide +kernel
theorem dX6_split_1 : decode cX6_split 1 = .ok (.iconst 0, 1) := by decide +kernel
theorem dX6_split_2 : decode cX6_split 2 = .ok (.putfield 77, 3) := by decide +kernel
theorem dX6_split_5 : decode cX6_split 5 = .ok (.aload_n 0, 1) := by decide +kernel
theorem dX6_split_6 : decode cX6_split 6 = .ok (.iload_n 1, 1) := by decide +kernel
theorem dX6_split_7 : decode cX6_split 7 = .ok (.invokevirtual 154, 3) := by decide +kernel
theorem dX6_split_10 : decode cX6_split 10 = .ok (.ifCond .eq 19, 3) := by decide +kernel
theorem dX6_split_13 : decode cX6_split 13 = .ok (.iload_n 2, 1) := by decide +kernel
theorem dX6_split_14 : decode cX6_split 14 = .ok (.invokestatic 158, 3) := by decide +kernel
theorem dX6_split_17 : decode cX6_split 17 = .ok (.ifCond .eq 12, 3) := by decide +kernel
theorem dX6_split_20 : decode cX6_split 20 = .ok (.aload_n 0, 1) := by decide +kernel
theorem dX6_split_21 : decode cX6_split 21 = .ok (.getfield 81, 3) := by decide +kernel
theorem dX6_split_24 : decode cX6_split 24 = .ok (.bipush 8, 2) := by decide +kernel
theorem dX6_split_26 : decode cX6_split 26 = .ok (.if_icmp .ne 5, 3) := by decide +kernel
theorem dX6_split_29 : decode cX6_split 29 = .ok (.iconst (-1), 1) := by decide +kernel
theorem dX6_split_30 : decode cX6_split 30 = .ok (.ireturn, 1) := by decide +kernel
theorem dX6_split_31 : decode cX6_split 31 = .ok (.aload_n 0, 1) := by decide +kernel
theorem dX6_split_32 : decode cX6_split 32 = .ok (.aload_n 0, 1) := by decide +kernel
theorem dX6_split_33 : decode cX6_split 33 = .ok (.getfield 7, 3) := by decide +kernel
theorem dX6_split_36 : decode cX6_split 36 = .ok (.iload_n 1, 1) := by decide +kernel
theorem dX6_split_37 : decode cX6_split 37 = .ok (.iaload, 1) := by decide +kernel
theorem dX6_split_38 : decode cX6_split 38 = .ok (.invokevirtual 84, 3) := by decide +kernel
theorem dX6_split_41 : decode cX6_split 41 = .ok (.istore_n 3, 1) := by decide +kernel
theorem dX6_split_42 : decode cX6_split 42 = .ok (.iconst 0, 1) := by decide +kernel
theorem dX6_split_43 : decode cX6_split 43 = .ok (.istore 4, 2) := by decide +kernel
theorem dX6_split_45 : decode cX6_split 45 = .ok (.iload 4, 2) := by decide +kernel
theorem dX6_split_47 : decode cX6_split 47 = .ok (.bipush 64, 2) := by decide +kernel
theorem dX6_split_49 : decode cX6_split 49 = .ok (.if_icmp .ge 43, 3) := by decide +kernel
theorem dX6_split_52 : decode cX6_split 52 = .ok (.aload_n 0, 1) := by decide +kernel
theorem dX6_split_53 : decode cX6_split 53 = .ok (.getfield 50, 3) := by decide +kernel
theorem dX6_split_56 : decode cX6_split 56 = .ok (.iload 4, 2) := by decide +kernel
theorem dX6_split_58 : decode cX6_split 58 = .ok (.aload_n 0, 1) := by decide +kernel
theorem dX6_split_59 : decode cX6_split 59 = .ok (.getfield 25, 3) := by decide +kernel
theorem dX6_split_62 : decode cX6_split 62 = .ok (.bipush 64, 2) := by decide +kernel
theorem dX6_split_64 : decode cX6_split 64 = .ok (.iload_n 1, 1) := by decide +kernel
theorem dX6_split_65 : decode cX6_split 65 = .ok (.imul, 1) := by decide +kernel
theorem dX6_split_66 : decode cX6_split 66 = .ok (.iload 4, 2) := by decide +kernel
theorem dX6_split_68 : decode cX6_split 68 = .ok (.iadd, 1) := by decide +kernel
theorem dX6_split_69 : decode cX6_split 69 = .ok (.baload, 1) := by decide +kernel
theorem dX6_split_70 : decode cX6_split 70 = .ok (.ifCond .eq 14, 3) := by decide +kernel
theorem dX6_split_73 : decode cX6_split 73 = .ok (.aload_n 0, 1) := by decide +kernel
theorem dX6_split_74 : decode cX6_split 74 = .ok (.iload_n 1, 1) := by decide +kernel
theorem dX6_split_75 : decode cX6_split 75 = .ok (.iload 4, 2) := by decide +kernel
theorem dX6_split_77 : decode cX6_split 77 = .ok (.iload_n 2, 1) := by decide +kernel
theorem dX6_split_78 : decode cX6_split 78 = .ok (.invokevirtual 170, 3) := by decide +kernel
theorem dX6_split_81 : decode cX6_split 81 = .ok (.goto 4, 3) := by decide +kernel
theorem dX6_split_84 : decode cX6_split 84 = .ok (.iconst (-1), 1) := by decide +kernel
theorem dX6_split_85 : decode cX6_split 85 = .ok (.iastore, 1) := by decide +kernel
theorem dX6_split_86 : decode cX6_split 86 = .ok (.iinc 4 1, 3) := by decide +kernel
theorem dX6_split_89 : decode cX6_split 89 = .ok (.goto (-44), 3) := by decide +kernel
theorem dX6_split_92 : decode cX6_split 92 = .ok (.aload_n 0, 1) := by decide +kernel
theorem dX6_split_93 : decode cX6_split 93 = .ok (.getfield 13, 3) := by decide +kernel
theorem dX6_split_96 : decode cX6_split 96 = .ok (.iload_n 1, 1) := by decide +kernel
theorem dX6_split_97 : decode cX6_split 97 = .ok (.iconst (-1), 1) := by decide +kernel
theorem dX6_split_98 : decode cX6_split 98 = .ok (.iastore, 1) := by decide +kernel
theorem dX6_split_99 : decode cX6_split 99 = .ok (.iconst 0, 1) := by decide +kernel
theorem dX6_split_100 : decode cX6_split 100 = .ok (.istore 4, 2) := by decide +kernel
theorem dX6_split_102 : decode cX6_split 102 = .ok (.iload 4, 2) := by decide +kernel
theorem dX6_split_104 : decode cX6_split 104 = .ok (.bipush 64, 2) := by decide +kernel
theorem dX6_split_106 : decode cX6_split 106 = .ok (.if_icmp .ge 92, 3) := by decide +kernel
theorem dX6_split_109 : decode cX6_split 109 = .ok (.aload_n 0, 1) := by decide +kernel
theorem dX6_split_110 : decode cX6_split 110 = .ok (.getfield 25, 3) := by decide +kernel
theorem dX6_split_113 : decode cX6_split 113 = .ok (.bipush 64, 2) := by decide +kernel
theorem dX6_split_115 : decode cX6_split 115 = .ok (.iload_n 1, 1) := by decide +kernel
theorem dX6_split_116 : decode cX6_split 116 = .ok (.imul, 1) := by decide +kernel
theorem dX6_split_117 : decode cX6_split 117 = .ok (.iload 4, 2) := by decide +kernel
theorem dX6_split_119 : decode cX6_split 119 = .ok (.iadd, 1) := by decide +kernel
theorem dX6_split_120 : decode cX6_split 120 = .ok (.baload, 1) := by decide +kernel
theorem dX6_split_121 : decode cX6_split 121 = .ok (.ifCond .eq 71, 3) := by decide +kernel
theorem dX6_split_124 : decode cX6_split 124 = .ok (.iload 4, 2) := by decide +kernel
theorem dX6_split_126 : decode cX6_split 126 = .ok (.iload_n 2, 1) := by decide +kernel
theorem dX6_split_127 : decode cX6_split 127 = .ok (.if_icmp .ge 7, 3) := by decide +kernel
theorem dX6_split_130 : decode cX6_split 130 = .ok (.iload_n 1, 1) := by decide +kernel
theorem dX6_split_131 : decode cX6_split 131 = .ok (.goto 4, 3) := by decide +kernel
theorem dX6_split_134 : decode cX6_split 134 = .ok (.iload_n 3, 1) := by decide +kernel
theorem dX6_split_135 : decode cX6_split 135 = .ok (.istore 5, 2) := by decide +kernel
theorem dX6_split_137 : decode cX6_split 137 = .ok (.aload_n 0, 1) := by decide +kernel
theorem dX6_split_138 : decode cX6_split 138 = .ok (.getfield 25, 3) := by decide +kernel
theorem dX6_split_141 : decode cX6_split 141 = .ok (.bipush 64, 2) := by decide +kernel
theorem dX6_split_143 : decode cX6_split 143 = .ok (.iload_n 1, 1) := by decide +kernel
theorem dX6_split_144 : decode cX6_split 144 = .ok (.imul, 1) := by decide +kernel
theorem dX6_split_145 : decode cX6_split 145 = .ok (.iload 4, 2) := by decide +kernel
theorem dX6_split_147 : decode cX6_split 147 = .ok (.iadd, 1) := by decide +kernel
theorem dX6_split_148 : decode cX6_split 148 = .ok (.iconst 0, 1) := by decide +kernel
theorem dX6_split_149 : decode cX6_split 149 = .ok (.bastore, 1) := by decide +kernel
theorem dX6_split_150 : decode cX6_split 150 = .ok (.aload_n 0, 1) := by decide +kernel
theorem dX6_split_151 : decode cX6_split 151 = .ok (.getfield 25, 3) := by decide +kernel
theorem dX6_split_154 : decode cX6_split 154 = .ok (.bipush 64, 2) := by decide +kernel
theorem dX6_split_156 : decode cX6_split 156 = .ok (.iload 5, 2) := by decide +kernel
theorem dX6_split_158 : decode cX6_split 158 = .ok (.imul, 1) := by decide +kernel
theorem dX6_split_159 : decode cX6_split 159 = .ok (.iload 4, 2) := by decide +kernel
theorem dX6_split_161 : decode cX6_split 161 = .ok (.iadd, 1) := by decide +kernel
theorem dX6_split_162 : decode cX6_split 162 = .ok (.iconst 1, 1) := by decide +kernel
theorem dX6_split_163 : decode cX6_split 163 = .ok (.bastore, 1) := by decide +kernel
theorem dX6_split_164 : decode cX6_split 164 = .ok (.aload_n 0, 1) := by decide +kernel
theorem dX6_split_165 : decode cX6_split 165 = .ok (.getfield 19, 3) := by decide +kernel
theorem dX6_split_168 : decode cX6_split 168 = .ok (.bipush 64, 2) := by decide +kernel
theorem dX6_split_170 : decode cX6_split 170 = .ok (.iload 5, 2) := by decide +kernel
theorem dX6_split_172 : decode cX6_split 172 = .ok (.imul, 1) := by decide +kernel
theorem dX6_split_173 : decode cX6_split 173 = .ok (.iload 4, 2) := by decide +kernel
theorem dX6_split_175 : decode cX6_split 175 = .ok (.iadd, 1) := by decide +kernel
theorem dX6_split_176 : decode cX6_split 176 = .ok (.iconst (-1), 1) := by decide +kernel
theorem dX6_split_177 : decode cX6_split 177 = .ok (.iastore, 1) := by decide +kernel
theorem dX6_split_178 : decode cX6_split 178 = .ok (.aload_n 0, 1) := by decide +kernel
theorem dX6_split_179 : decode cX6_split 179 = .ok (.getfield 22, 3) := by decide +kernel
theorem dX6_split_182 : decode cX6_split 182 = .ok (.bipush 64, 2) := by decide +kernel
theorem dX6_split_184 : decode cX6_split 184 = .ok (.iload 5, 2) := by decide +kernel
theorem dX6_split_186 : decode cX6_split 186 = .ok (.imul, 1) := by decide +kernel
theorem dX6_split_187 : decode cX6_split 187 = .ok (.iload 4, 2) := by decide +kernel
theorem dX6_split_189 : decode cX6_split 189 = .ok (.iadd, 1) := by decide +kernel
theorem dX6_split_190 : decode cX6_split 190 = .ok (.iconst (-1), 1) := by decide +kernel
theorem dX6_split_191 : decode cX6_split 191 = .ok (.iastore, 1) := by decide +kernel
theorem dX6_split_192 : decode cX6_split 192 = .ok (.iinc 4 1, 3) := by decide +kernel
theorem dX6_split_195 : decode cX6_split 195 = .ok (.goto (-93), 3) := by decide +kernel
theorem dX6_split_198 : decode cX6_split 198 = .ok (.aload_n 0, 1) := by decide +kernel
theorem dX6_split_199 : decode cX6_split 199 = .ok (.getfield 29, 3) := by decide +kernel
theorem dX6_split_202 : decode cX6_split 202 = .ok (.iload_n 1, 1) := by decide +kernel
theorem dX6_split_203 : decode cX6_split 203 = .ok (.iconst 0, 1) := by decide +kernel
theorem dX6_split_204 : decode cX6_split 204 = .ok (.iastore, 1) := by decide +kernel
theorem dX6_split_205 : decode cX6_split 205 = .ok (.iconst 0, 1) := by decide +kernel
theorem dX6_split_206 : decode cX6_split 206 = .ok (.istore 4, 2) := by decide +kernel
theorem dX6_split_208 : decode cX6_split 208 = .ok (.iload 4, 2) := by decide +kernel
theorem dX6_split_210 : decode cX6_split 210 = .ok (.bipush 64, 2) := by decide +kernel
theorem dX6_split_212 : decode cX6_split 212 = .ok (.if_icmp .ge 146, 3) := by decide +kernel
theorem dX6_split_215 : decode cX6_split 215 = .ok (.iload 4, 2) := by decide +kernel
theorem dX6_split_217 : decode cX6_split 217 = .ok (.iload_n 2, 1) := by decide +kernel
theorem dX6_split_218 : decode cX6_split 218 = .ok (.if_icmp .ge 7, 3) := by decide +kernel
theorem dX6_split_221 : decode cX6_split 221 = .ok (.iload_n 1, 1) := by decide +kernel
theorem dX6_split_222 : decode cX6_split 222 = .ok (.goto 4, 3) := by decide +kernel
theorem dX6_split_225 : decode cX6_split 225 = .ok (.iload_n 3, 1) := by decide +kernel
theorem dX6_split_226 : decode cX6_split 226 = .ok (.istore 5, 2) := by decide +kernel
theorem dX6_split_228 : decode cX6_split 228 = .ok (.aload_n 0, 1) := by decide +kernel
theorem dX6_split_229 : decode cX6_split 229 = .ok (.getfield 25, 3) := by decide +kernel
theorem dX6_split_232 : decode cX6_split 232 = .ok (.bipush 64, 2) := by decide +kernel
theorem dX6_split_234 : decode cX6_split 234 = .ok (.iload 5, 2) := by decide +kernel
theorem dX6_split_236 : decode cX6_split 236 = .ok (.imul, 1) := by decide +kernel
theorem dX6_split_237 : decode cX6_split 237 = .ok (.iload 4, 2) := by decide +kernel
theorem dX6_split_239 : decode cX6_split 239 = .ok (.iadd, 1) := by decide +kernel
theorem dX6_split_240 : decode cX6_split 240 = .ok (.baload, 1) := by decide +kernel
theorem dX6_split_241 : decode cX6_split 241 = .ok (.ifCond .eq 111, 3) := by decide +kernel
theorem dX6_split_244 : decode cX6_split 244 = .ok (.aload_n 0, 1) := by decide +kernel
theorem dX6_split_245 : decode cX6_split 245 = .ok (.getfield 29, 3) := by decide +kernel
theorem dX6_split_248 : decode cX6_split 248 = .ok (.iload 5, 2) := by decide +kernel
theorem dX6_split_250 : decode cX6_split 250 = .ok (.dup2, 1) := by decide +kernel
theorem dX6_split_251 : decode cX6_split 251 = .ok (.iaload, 1) := by decide +kernel
theorem dX6_split_252 : decode cX6_split 252 = .ok (.iconst 1, 1) := by decide +kernel
theorem dX6_split_253 : decode cX6_split 253 = .ok (.iadd, 1) := by decide +kernel
theorem dX6_split_254 : decode cX6_split 254 = .ok (.iastore, 1) := by decide +kernel
theorem dX6_split_255 : decode cX6_split 255 = .ok (.aload_n 0, 1) := by decide +kernel
theorem dX6_split_256 : decode cX6_split 256 = .ok (.getfield 16, 3) := by decide +kernel
theorem dX6_split_259 : decode cX6_split 259 = .ok (.bipush 64, 2) := by decide +kernel
theorem dX6_split_261 : decode cX6_split 261 = .ok (.iload 5, 2) := by decide +kernel
theorem dX6_split_263 : decode cX6_split 263 = .ok (.imul, 1) := by decide +kernel
theorem dX6_split_264 : decode cX6_split 264 = .ok (.iload 4, 2) := by decide +kernel
theorem dX6_split_266 : decode cX6_split 266 = .ok (.iadd, 1) := by decide +kernel
theorem dX6_split_267 : decode cX6_split 267 = .ok (.aload_n 0, 1) := by decide +kernel
theorem dX6_split_268 : decode cX6_split 268 = .ok (.getfield 50, 3) := by decide +kernel
theorem dX6_split_271 : decode cX6_split 271 = .ok (.iload 4, 2) := by decide +kernel
theorem dX6_split_273 : decode cX6_split 273 = .ok (.iaload, 1) := by decide +kernel
theorem dX6_split_274 : decode cX6_split 274 = .ok (.iastore, 1) := by decide +kernel
theorem dX6_split_275 : decode cX6_split 275 = .ok (.aload_n 0, 1) := by decide +kernel
theorem dX6_split_276 : decode cX6_split 276 = .ok (.getfield 50, 3) := by decide +kernel
theorem dX6_split_279 : decode cX6_split 279 = .ok (.iload 4, 2) := by decide +kernel
theorem dX6_split_281 : decode cX6_split 281 = .ok (.iaload, 1) := by decide +kernel
theorem dX6_split_282 : decode cX6_split 282 = .ok (.ifCond .ge 15, 3) := by decide +kernel
theorem dX6_split_285 : decode cX6_split 285 = .ok (.aload_n 0, 1) := by decide +kernel
theorem dX6_split_286 : decode cX6_split 286 = .ok (.getfield 13, 3) := by decide +kernel
theorem dX6_split_289 : decode cX6_split 289 = .ok (.iload 5, 2) := by decide +kernel
theorem dX6_split_291 : decode cX6_split 291 = .ok (.iload 4, 2) := by decide +kernel
theorem dX6_split_293 : decode cX6_split 293 = .ok (.iastore, 1) := by decide +kernel
theorem dX6_split_294 : decode cX6_split 294 = .ok (.goto 58, 3) := by decide +kernel
theorem dX6_split_297 : decode cX6_split 297 = .ok (.iload 4, 2) := by decide +kernel
theorem dX6_split_299 : decode cX6_split 299 = .ok (.aload_n 0, 1) := by decide +kernel
theorem dX6_split_300 : decode cX6_split 300 = .ok (.getfield 50, 3) := by decide +kernel
theorem dX6_split_303 : decode cX6_split 303 = .ok (.iload 4, 2) := by decide +kernel
theorem dX6_split_305 : decode cX6_split 305 = .ok (.iaload, 1) := by decide +kernel
theorem dX6_split_306 : decode cX6_split 306 = .ok (.if_icmp .ge 26, 3) := by decide +kernel
theorem dX6_split_309 : decode cX6_split 309 = .ok (.aload_n 0, 1) := by decide +kernel
theorem dX6_split_310 : decode cX6_split 310 = .ok (.getfield 19, 3) := by decide +kernel
theorem dX6_split_313 : decode cX6_split 313 = .ok (.bipush 64, 2) := by decide +kernel
theorem dX6_split_315 : decode cX6_split 315 = .ok (.iload 5, 2) := by decide +kernel
theorem dX6_split_317 : decode cX6_split 317 = .ok (.imul, 1) := by decide +kernel
theorem dX6_split_318 : decode cX6_split 318 = .ok (.aload_n 0, 1) := by decide +kernel
theorem dX6_split_319 : decode cX6_split 319 = .ok (.getfield 50, 3) := by decide +kernel
theorem dX6_split_322 : decode cX6_split 322 = .ok (.iload 4, 2) := by decide +kernel
theorem dX6_split_324 : decode cX6_split 324 = .ok (.iaload, 1) := by decide +kernel
theorem dX6_split_325 : decode cX6_split 325 = .ok (.iadd, 1) := by decide +kernel
theorem dX6_split_326 : decode cX6_split 326 = .ok (.iload 4, 2) := by decide +kernel
theorem dX6_split_328 : decode cX6_split 328 = .ok (.iastore, 1) := by decide +kernel
theorem dX6_split_329 : decode cX6_split 329 = .ok (.goto 23, 3) := by decide +kernel
theorem dX6_split_332 : decode cX6_split 332 = .ok (.aload_n 0, 1) := by decide +kernel
theorem dX6_split_333 : decode cX6_split 333 = .ok (.getfield 22, 3) := by decide +kernel
theorem dX6_split_336 : decode cX6_split 336 = .ok (.bipush 64, 2) := by decide +kernel
theorem dX6_split_338 : decode cX6_split 338 = .ok (.iload 5, 2) := by decide +kernel
theorem dX6_split_340 : decode cX6_split 340 = .ok (.imul, 1) := by decide +kernel
theorem dX6_split_341 : decode cX6_split 341 = .ok (.aload_n 0, 1) := by decide +kernel
theorem dX6_split_342 : decode cX6_split 342 = .ok (.getfield 50, 3) := by decide +kernel
theorem dX6_split_345 : decode cX6_split 345 = .ok (.iload 4, 2) := by decide +kernel
theorem dX6_split_347 : decode cX6_split 347 = .ok (.iaload, 1) := by decide +kernel
theorem dX6_split_348 : decode cX6_split 348 = .ok (.iadd, 1) := by decide +kernel
theorem dX6_split_349 : decode cX6_split 349 = .ok (.iload 4, 2) := by decide +kernel
theorem dX6_split_351 : decode cX6_split 351 = .ok (.iastore, 1) := by decide +kernel
theorem dX6_split_352 : decode cX6_split 352 = .ok (.iinc 4 1, 3) := by decide +kernel
theorem dX6_split_355 : decode cX6_split 355 = .ok (.goto (-147), 3) := by decide +kernel
theorem dX6_split_358 : decode cX6_split 358 = .ok (.aload_n 0, 1) := by decide +kernel
theorem dX6_split_359 : decode cX6_split 359 = .ok (.getfield 38, 3) := by decide +kernel
theorem dX6_split_362 : decode cX6_split 362 = .ok (.iload_n 1, 1) := by decide +kernel
theorem dX6_split_363 : decode cX6_split 363 = .ok (.aload_n 0, 1) := by decide +kernel
theorem dX6_split_364 : decode cX6_split 364 = .ok (.getfield 7, 3) := by decide +kernel
theorem dX6_split_367 : decode cX6_split 367 = .ok (.iload_n 1, 1) := by decide +kernel
theorem dX6_split_368 : decode cX6_split 368 = .ok (.iaload, 1) := by decide +kernel
theorem dX6_split_369 : decode cX6_split 369 = .ok (.iconst 4, 1) := by decide +kernel
theorem dX6_split_370 : decode cX6_split 370 = .ok (.if_icmp .ne 12, 3) := by decide +kernel
theorem dX6_split_373 : decode cX6_split 373 = .ok (.aload_n 0, 1) := by decide +kernel
theorem dX6_split_374 : decode cX6_split 374 = .ok (.getfield 29, 3) := by decide +kernel
theorem dX6_split_377 : decode cX6_split 377 = .ok (.iload_n 1, 1) := by decide +kernel
theorem dX6_split_378 : decode cX6_split 378 = .ok (.iaload, 1) := by decide +kernel
theorem dX6_split_379 : decode cX6_split 379 = .ok (.goto 4, 3) := by decide +kernel
theorem dX6_split_382 : decode cX6_split 382 = .ok (.iconst 0, 1) := by decide +kernel
theorem dX6_split_383 : decode cX6_split 383 = .ok (.iastore, 1) := by decide +kernel
theorem dX6_split_384 : decode cX6_split 384 = .ok (.aload_n 0, 1) := by decide +kernel
theorem dX6_split_385 : decode cX6_split 385 = .ok (.getfield 38, 3) := by decide +kernel
theorem dX6_split_388 : decode cX6_split 388 = .ok (.iload_n 3, 1) := by decide +kernel
theorem dX6_split_389 : decode cX6_split 389 = .ok (.aload_n 0, 1) := by decide +kernel
theorem dX6_split_390 : decode cX6_split 390 = .ok (.getfield 7, 3) := by decide +kernel
theorem dX6_split_393 : decode cX6_split 393 = .ok (.iload_n 3, 1) := by decide +kernel
theorem dX6_split_394 : decode cX6_split 394 = .ok (.iaload, 1) := by decide +kernel
theorem dX6_split_395 : decode cX6_split 395 = .ok (.iconst 4, 1) := by decide +kernel
theorem dX6_split_396 : decode cX6_split 396 = .ok (.if_icmp .ne 12, 3) := by decide +kernel
theorem dX6_split_399 : decode cX6_split 399 = .ok (.aload_n 0, 1) := by decide +kernel
theorem dX6_split_400 : decode cX6_split 400 = .ok (.getfield 29, 3) := by decide +kernel
theorem dX6_split_403 : decode cX6_split 403 = .ok (.iload_n 3, 1) := by decide +kernel
theorem dX6_split_404 : decode cX6_split 404 = .ok (.iaload, 1) := by decide +kernel
theorem dX6_split_405 : decode cX6_split 405 = .ok (.goto 4, 3) := by decide +kernel
theorem dX6_split_408 : decode cX6_split 408 = .ok (.iconst 0, 1) := by decide +kernel
theorem dX6_split_409 : decode cX6_split 409 = .ok (.iastore, 1) := by decide +kernel
theorem dX6_split_410 : decode cX6_split 410 = .ok (.iload_n 3, 1) := by decide +kernel
theorem dX6_split_411 : decode cX6_split 411 = .ok (.ireturn, 1) := by decide +kernel
theorem dX6_greatest_0 : decode cX6_greatest 0 = .ok (.aload_n 0, 1) := by decide +kernel
theorem dX6_greatest_1 : decode cX6_greatest 1 = .ok (.getfield 13, 3) := by decide +kernel
theorem dX6_greatest_4 : decode cX6_greatest 4 = .ok (.iload_n 1, 1) := by decide +kernel
theorem dX6_greatest_5 : decode cX6_greatest 5 = .ok (.iaload, 1) := by decide +kernel
theorem dX6_greatest_6 : decode cX6_greatest 6 = .ok (.istore_n 2, 1) := by decide +kernel
theorem dX6_greatest_7 : decode cX6_greatest 7 = .ok (.iload_n 2, 1) := by decide +kernel
theorem dX6_greatest_8 : decode cX6_greatest 8 = .ok (.ifCond .lt 32, 3) := by decide +kernel
theorem dX6_greatest_11 : decode cX6_greatest 11 = .ok (.aload_n 0, 1) := by decide +kernel
theorem dX6_greatest_12 : decode cX6_greatest 12 = .ok (.getfield 22, 3) := by decide +kernel
theorem dX6_greatest_15 : decode cX6_greatest 15 = .ok (.bipush 64, 2) := by decide +kernel
theorem dX6_greatest_17 : decode cX6_greatest 17 = .ok (.iload_n 1, 1) := by decide +kernel
theorem dX6_greatest_18 : decode cX6_greatest 18 = .ok (.imul, 1) := by decide +kernel
theorem dX6_greatest_19 : decode cX6_greatest 19 = .ok (.iload_n 2, 1) := by decide +kernel
theorem dX6_greatest_20 : decode cX6_greatest 20 = .ok (.iadd, 1) := by decide +kernel
theorem dX6_greatest_21 : decode cX6_greatest 21 = .ok (.iaload, 1) := by decide +kernel
theorem dX6_greatest_22 : decode cX6_greatest 22 = .ok (.ifCond .lt 18, 3) := by decide +kernel
theorem dX6_greatest_25 : decode cX6_greatest 25 = .ok (.aload_n 0, 1) := by decide +kernel
theorem dX6_greatest_26 : decode cX6_greatest 26 = .ok (.getfield 22, 3) := by decide +kernel
theorem dX6_greatest_29 : decode cX6_greatest 29 = .ok (.bipush 64, 2) := by decide +kernel
theorem dX6_greatest_31 : decode cX6_greatest 31 = .ok (.iload_n 1, 1) := by decide +kernel
theorem dX6_greatest_32 : decode cX6_greatest 32 = .ok (.imul, 1) := by decide +kernel
theorem dX6_greatest_33 : decode cX6_greatest 33 = .ok (.iload_n 2, 1) := by decide +kernel
theorem dX6_greatest_34 : decode cX6_greatest 34 = .ok (.iadd, 1) := by decide +kernel
theorem dX6_greatest_35 : decode cX6_greatest 35 = .ok (.iaload, 1) := by decide +kernel
theorem dX6_greatest_36 : decode cX6_greatest 36 = .ok (.istore_n 2, 1) := by decide +kernel
theorem dX6_greatest_37 : decode cX6_greatest 37 = .ok (.goto (-30), 3) := by decide +kernel
theorem dX6_greatest_40 : decode cX6_greatest 40 = .ok (.iload_n 2, 1) := by decide +kernel
theorem dX6_greatest_41 : decode cX6_greatest 41 = .ok (.ireturn, 1) := by decide +kernel
theorem dX6_smallest_0 : decode cX6_smallest 0 = .ok (.aload_n 0, 1) := by decide +kernel
theorem dX6_smallest_1 : decode cX6_smallest 1 = .ok (.getfield 13, 3) := by decide +kernel
theorem dX6_smallest_4 : decode cX6_smallest 4 = .ok (.iload_n 1, 1) := by decide +kernel
theorem dX6_smallest_5 : decode cX6_smallest 5 = .ok (.iaload, 1) := by decide +kernel
theorem dX6_smallest_6 : decode cX6_smallest 6 = .ok (.istore_n 2, 1) := by decide +kernel
theorem dX6_smallest_7 : decode cX6_smallest 7 = .ok (.iload_n 2, 1) := by decide +kernel
theorem dX6_smallest_8 : decode cX6_smallest 8 = .ok (.ifCond .lt 32, 3) := by decide +kernel
theorem dX6_smallest_11 : decode cX6_smallest 11 = .ok (.aload_n 0, 1) := by decide +kernel
theorem dX6_smallest_12 : decode cX6_smallest 12 = .ok (.getfield 19, 3) := by decide +kernel
theorem dX6_smallest_15 : decode cX6_smallest 15 = .ok (.bipush 64, 2) := by decide +kernel
theorem dX6_smallest_17 : decode cX6_smallest 17 = .ok (.iload_n 1, 1) := by decide +kernel
theorem dX6_smallest_18 : decode cX6_smallest 18 = .ok (.imul, 1) := by decide +kernel
theorem dX6_smallest_19 : decode cX6_smallest 19 = .ok (.iload_n 2, 1) := by decide +kernel
theorem dX6_smallest_20 : decode cX6_smallest 20 = .ok (.iadd, 1) := by decide +kernel
theorem dX6_smallest_21 : decode cX6_smallest 21 = .ok (.iaload, 1) := by decide +kernel
theorem dX6_smallest_22 : decode cX6_smallest 22 = .ok (.ifCond .lt 18, 3) := by decide +kernel
theorem dX6_smallest_25 : decode cX6_smallest 25 = .ok (.aload_n 0, 1) := by decide +kernel
theorem dX6_smallest_26 : decode cX6_smallest 26 = .ok (.getfield 19, 3) := by decide +kernel
theorem dX6_smallest_29 : decode cX6_smallest 29 = .ok (.bipush 64, 2) := by decide +kernel
theorem dX6_smallest_31 : decode cX6_smallest 31 = .ok (.iload_n 1, 1) := by decide +kernel
theorem dX6_smallest_32 : decode cX6_smallest 32 = .ok (.imul, 1) := by decide +kernel
theorem dX6_smallest_33 : decode cX6_smallest 33 = .ok (.iload_n 2, 1) := by decide +kernel
theorem dX6_smallest_34 : decode cX6_smallest 34 = .ok (.iadd, 1) := by decide +kernel
theorem dX6_smallest_35 : decode cX6_smallest 35 = .ok (.iaload, 1) := by decide +kernel
theorem dX6_smallest_36 : decode cX6_smallest 36 = .ok (.istore_n 2, 1) := by decide +kernel
theorem dX6_smallest_37 : decode cX6_smallest 37 = .ok (.goto (-30), 3) := by decide +kernel
theorem dX6_smallest_40 : decode cX6_smallest 40 = .ok (.iload_n 2, 1) := by decide +kernel
theorem dX6_smallest_41 : decode cX6_smallest 41 = .ok (.ireturn, 1) := by decide +kernel
set_option maxRecDepth 20000 in
theorem ggX6_heaps_X6_weight : GoodIn wsX6_heaps wsX6_weight := goodIn_r _ [6] (by decide +kernel) (by decide +kernel)
set_option maxRecDepth 20000 in
theorem gX6_heaps_X6_weight : GoodIn wsX6_heaps (va_wsS RX6 118 yX6_weight wsX6_weight) := goodIn_app (goodIn_of _ (by decide +kernel)) ggX6_heaps_X6_weight
set_option maxRecDepth 20000 in
theorem ggX6_heaps_X6_heaps : GoodIn wsX6_heaps wsX6_heaps := goodIn_r _ [0, 1, 2, 3, 4, 5, 6, 7, 8, 9, 10, 11, 12, 13, 14, 15, 16, 17, 18, 19, 20, 21, 22, 23, 24, 25, 26, 27, 28, 29, 30, 31, 32, 33, 34, 35, 36, 37, 38, 39, 40, 41, 42, 43, 44, 45, 46] (by decide +kernel) (by decide +kernel)
set_option maxRecDepth 20000 in
theorem gX6_heaps_X6_heaps : GoodIn wsX6_heaps (wsV RX6 173 RX6 yX6_heaps wsX6_heaps) := goodIn_app (goodIn_of _ (by decide +kernel)) ggX6_heaps_X6_heaps
set_option maxRecDepth 20000 in
theorem ggX6_heaps_X6_hangsRight : GoodIn wsX6_heaps wsX6_hangsRight := goodIn_r _ [13, 1, 14, 19, 20, 21, 22, 23, 24, 25, 26, 27, 28, 29, 30, 31, 32, 33, 34, 35, 36, 37, 38, 39, 40, 41, 42, 43, 44, 45, 46] (by decide +kernel) (by decide +kernel)
set_option maxRecDepth 20000 in
theorem gX6_heaps_X6_hangsRight : GoodIn wsX6_heaps (wsV RX6 99 RX6 yX6_hangsRight wsX6_hangsRight) := goodIn_app (goodIn_of _ (by decide +kernel)) ggX6_heaps_X6_hangsRight
set_option maxRecDepth 20000 in
theorem ggX6_heaps_X6_hangsLeft : GoodIn wsX6_heaps wsX6_hangsLeft := goodIn_r _ [18, 2, 14, 19, 20, 21, 22, 23, 24, 25, 26, 27, 28, 29, 30, 31, 32, 33, 34, 35, 36, 37, 38, 39, 40, 41, 42, 43, 44, 45, 46] (by decide +kernel) (by decide +kernel)
set_option maxRecDepth 20000 in
theorem gX6_heaps_X6_hangsLeft : GoodIn wsX6_heaps (wsV RX6 96 RX6 yX6_hangsLeft wsX6_hangsLeft) := goodIn_app (goodIn_of _ (by decide +kernel)) ggX6_heaps_X6_hangsLeft
theorem dX6_heaps_0 : decode cX6_heaps 0 = .ok (.iload_n 2, 1) := by decide +kernel
theorem dX6_heaps_1 : decode cX6_heaps 1 = .ok (.ifCond .lt 7, 3) := by decide +kernel
theorem dX6_heaps_4 : decode cX6_heaps 4 = .ok (.iload_n 3, 1) := by decide +kernel
theorem dX6_heaps_5 : decode cX6_heaps 5 = .ok (.ifCond .ge 13, 3) := by decide +kernel
theorem dX6_heaps_8 : decode cX6_heaps 8 = .ok (.iload_n 2, 1) := by decide +kernel
theorem dX6_heaps_9 : decode cX6_heaps 9 = .ok (.ifCond .ge 7, 3) := by decide +kernel
theorem dX6_heaps_12 : decode cX6_heaps 12 = .ok (.iload_n 3, 1) := by decide +kernel
theorem dX6_heaps_13 : decode cX6_heaps 13 = .ok (.goto 4, 3) := by decide +kernel
theorem dX6_heaps_16 : decode cX6_heaps 16 = .ok (.iload_n 2, 1) := by decide +kernel
theorem dX6_heaps_17 : decode cX6_heaps 17 = .ok (.ireturn, 1) := by decide +kernel
theorem dX6_heaps_18 : decode cX6_heaps 18 = .ok (.iload_n 2, 1) := by decide +kernel
theorem dX6_heaps_19 : decode cX6_heaps 19 = .ok (.invokestatic 118, 3) := by decide +kernel
theorem dX6_heaps_22 : decode cX6_heaps 22 = .ok (.iload_n 3, 1) := by decide +kernel
theorem dX6_heaps_23 : decode cX6_heaps 23 = .ok (.invokestatic 118, 3) := by decide +kernel
theorem dX6_heaps_26 : decode cX6_heaps 26 = .ok (.if_icmp .le 28, 3) := by decide +kernel
theorem dX6_heaps_29 : decode cX6_heaps 29 = .ok (.aload_n 0, 1) := by decide +kernel
theorem dX6_heaps_30 : decode cX6_heaps 30 = .ok (.iload_n 1, 1) := by decide +kernel
theorem dX6_heaps_31 : decode cX6_heaps 31 = .ok (.aload_n 0, 1) := by decide +kernel
theorem dX6_heaps_32 : decode cX6_heaps 32 = .ok (.iload_n 1, 1) := by decide +kernel
theorem dX6_heaps_33 : decode cX6_heaps 33 = .ok (.aload_n 0, 1) := by decide +kernel
theorem dX6_heaps_34 : decode cX6_heaps 34 = .ok (.getfield 22, 3) := by decide +kernel
theorem dX6_heaps_37 : decode cX6_heaps 37 = .ok (.bipush 64, 2) := by decide +kernel
theorem dX6_heaps_39 : decode cX6_heaps 39 = .ok (.iload_n 1, 1) := by decide +kernel
theorem dX6_heaps_40 : decode cX6_heaps 40 = .ok (.imul, 1) := by decide +kernel
theorem dX6_heaps_41 : decode cX6_heaps 41 = .ok (.iload_n 2, 1) := by decide +kernel
theorem dX6_heaps_42 : decode cX6_heaps 42 = .ok (.iadd, 1) := by decide +kernel
theorem dX6_heaps_43 : decode cX6_heaps 43 = .ok (.iaload, 1) := by decide +kernel
theorem dX6_heaps_44 : decode cX6_heaps 44 = .ok (.iload_n 3, 1) := by decide +kernel
theorem dX6_heaps_45 : decode cX6_heaps 45 = .ok (.invokevirtual 173, 3) := by decide +kernel
theorem dX6_heaps_48 : decode cX6_heaps 48 = .ok (.iload_n 2, 1) := by decide +kernel
theorem dX6_heaps_49 : decode cX6_heaps 49 = .ok (.invokevirtual 99, 3) := by decide +kernel
theorem dX6_heaps_52 : decode cX6_heaps 52 = .ok (.iload_n 2, 1) := by decide +kernel
theorem dX6_heaps_53 : decode cX6_heaps 53 = .ok (.ireturn, 1) := by decide +kernel
theorem dX6_heaps_54 : decode cX6_heaps 54 = .ok (.aload_n 0, 1) := by decide +kernel
theorem dX6_heaps_55 : decode cX6_heaps 55 = .ok (.iload_n 1, 1) := by decide +kernel
theorem dX6_heaps_56 : decode cX6_heaps 56 = .ok (.aload_n 0, 1) := by decide +kernel
theorem dX6_heaps_57 : decode cX6_heaps 57 = .ok (.iload_n 1, 1) := by decide +kernel
theorem dX6_heaps_58 : decode cX6_heaps 58 = .ok (.iload_n 2, 1) := by decide +kernel
theorem dX6_heaps_59 : decode cX6_heaps 59 = .ok (.aload_n 0, 1) := by decide +kernel
theorem dX6_heaps_60 : decode cX6_heaps 60 = .ok (.getfield 19, 3) := by decide +kernel
theorem dX6_heaps_63 : decode cX6_heaps 63 = .ok (.bipush 64, 2) := by decide +kernel
theorem dX6_heaps_65 : decode cX6_heaps 65 = .ok (.iload_n 1, 1) := by decide +kernel
theorem dX6_heaps_66 : decode cX6_heaps 66 = .ok (.imul, 1) := by decide +kernel
theorem dX6_heaps_67 : decode cX6_heaps 67 = .ok (.iload_n 3, 1) := by decide +kernel
theorem dX6_heaps_68 : decode cX6_heaps 68 = .ok (.iadd, 1) := by decide +kernel
theorem dX6_heaps_69 : decode cX6_heaps 69 = .ok (.iaload, 1) := by decide +kernel
theorem dX6_heaps_70 : decode cX6_heaps 70 = .ok (.invokevirtual 173, 3) := by decide +kernel
theorem dX6_heaps_73 : decode cX6_heaps 73 = .ok (.iload_n 3, 1) := by decide +kernel
theorem dX6_heaps_74 : decode cX6_heaps 74 = .ok (.invokevirtual 96, 3) := by decide +kernel
theorem dX6_heaps_77 : decode cX6_heaps 77 = .ok (.iload_n 3, 1) := by decide +kernel
theorem dX6_heaps_78 : decode cX6_heaps 78 = .ok (.ireturn, 1) := by decide +kernel
set_option maxRecDepth 20000 in
theorem ggX6_join_X6_isTree : GoodIn wsX6_join wsX6_isTree := goodIn_r _ [14, 15, 52, 53, 54, 55, 56, 57, 58, 59, 60, 61, 62, 63, 64, 65, 66, 67, 68, 69, 70, 71, 72, 73, 74, 75, 76, 77, 78, 79] (by decide +kernel) (by decide +kernel)
set_option maxRecDepth 20000 in
theorem gX6_join_X6_isTree : GoodIn wsX6_join (wsV RX6 154 RX6 yX6_isTree wsX6_isTree) := goodIn_app (goodIn_of _ (by decide +kernel)) ggX6_join_X6_isTree
set_option maxRecDepth 20000 in
theorem ggX6_join_X6_greatest : GoodIn wsX6_join wsX6_greatest := goodIn_r _ [19, 8, 7, 52, 53, 54, 55, 56, 57, 58, 59, 60, 61, 62, 63, 64, 65, 66, 67, 68, 69, 70, 71, 72, 73, 74, 75, 76, 77, 78, 79] (by decide +kernel) (by decide +kernel)
set_option maxRecDepth 20000 in
theorem gX6_join_X6_greatest : GoodIn wsX6_join (wsV RX6 176 RX6 yX6_greatest wsX6_greatest) := goodIn_app (goodIn_of _ (by decide +kernel)) ggX6_join_X6_greatest
set_option maxRecDepth 20000 in
theorem ggX6_join_X6_smallest : GoodIn wsX6_join wsX6_smallest := goodIn_r _ [23, 8, 6, 52, 53, 54, 55, 56, 57, 58, 59, 60, 61, 62, 63, 64, 65, 66, 67, 68, 69, 70, 71, 72, 73, 74, 75, 76, 77, 78, 79] (by decide +kernel) (by decide +kernel)
set_option maxRecDepth 20000 in
theorem gX6_join_X6_smallest : GoodIn wsX6_join (wsV RX6 179 RX6 yX6_smallest wsX6_smallest) := goodIn_app (goodIn_of _ (by decide +kernel)) ggX6_join_X6_smallest
set_option maxRecDepth 20000 in
theorem ggX6_join_X6_rises : GoodIn wsX6_join wsX6_rises := goodIn_r _ [27, 5, 28, 29, 30, 13, 31, 7, 6, 32, 33, 34, 35, 36, 8, 37, 38, 39, 40, 41, 42, 43, 44, 52, 53, 54, 55, 56, 57, 58, 59, 60, 61, 62, 63, 64, 65, 66, 67, 68, 69, 70, 71, 72, 73, 74, 75, 76, 77, 78, 79] (by decide +kernel) (by decide +kernel)
set_option maxRecDepth 20000 in
theorem gX6_join_X6_rises : GoodIn wsX6_join (wsV RX6 109 RX6 yX6_rises wsX6_rises) := goodIn_app (goodIn_of _ (by decide +kernel)) ggX6_join_X6_rises
set_option maxRecDepth 20000 in
theorem ggX6_join_X6_heaps : GoodIn wsX6_join wsX6_heaps := goodIn_r _ [48, 7, 6, 49, 50, 13, 51, 45, 46, 47, 41, 42, 43, 44, 5, 37, 38, 39, 40, 52, 53, 54, 55, 56, 57, 58, 59, 60, 61, 62, 63, 64, 65, 66, 67, 68, 69, 70, 71, 72, 73, 74, 75, 76, 77, 78, 79] (by decide +kernel) (by decide +kernel)
set_option maxRecDepth 20000 in
theorem gX6_join_X6_heaps : GoodIn wsX6_join (wsV RX6 173 RX6 yX6_heaps wsX6_heaps) := goodIn_app (goodIn_of _ (by decide +kernel)) ggX6_join_X6_heaps
set_option maxRecDepth 20000 in
theorem ggX6_join_X6_hangsRight : GoodIn wsX6_join wsX6_hangsRight := goodIn_r _ [44, 7, 5, 52, 53, 54, 55, 56, 57, 58, 59, 60, 61, 62, 63, 64, 65, 66, 67, 68, 69, 70, 71, 72, 73, 74, 75, 76, 77, 78, 79] (by decide +kernel) (by decide +kernel)
set_option maxRecDepth 20000 in
theorem gX6_join_X6_hangsRight : GoodIn wsX6_join (wsV RX6 99 RX6 yX6_hangsRight wsX6_hangsRight) := goodIn_app (goodIn_of _ (by decide +kernel)) ggX6_join_X6_hangsRight
theorem dX6_join_0 : decode cX6_join 0 = .ok (.aload_n 0, 1) := by decide +kernel
theorem dX6_join_1 : decode cX6_join 1 = .ok (.iconst 0, 1) := by decide +kernel
theorem dX6_join_2 : decode cX6_join 2 = .ok (.putfield 77, 3) := by decide +kernel
theorem dX6_join_5 : decode cX6_join 5 = .ok (.aload_n 0, 1) := by decide +kernel
theorem dX6_join_6 : decode cX6_join 6 = .ok (.iload_n 1, 1) := by decide +kernel
theorem dX6_join_7 : decode cX6_join 7 = .ok (.invokevirtual 154, 3) := by decide +kernel
theorem dX6_join_10 : decode cX6_join 10 = .ok (.ifCond .eq 31, 3) := by decide +kernel
theorem dX6_join_13 : decode cX6_join 13 = .ok (.aload_n 0, 1) := by decide +kernel
theorem dX6_join_14 : decode cX6_join 14 = .ok (.iload_n 2, 1) := by decide +kernel
theorem dX6_join_15 : decode cX6_join 15 = .ok (.invokevirtual 154, 3) := by decide +kernel
theorem dX6_join_18 : decode cX6_join 18 = .ok (.ifCond .eq 23, 3) := by decide +kernel
theorem dX6_join_21 : decode cX6_join 21 = .ok (.iload_n 1, 1) := by decide +kernel
theorem dX6_join_22 : decode cX6_join 22 = .ok (.iload_n 2, 1) := by decide +kernel
theorem dX6_join_23 : decode cX6_join 23 = .ok (.if_icmp .eq 18, 3) := by decide +kernel
theorem dX6_join_26 : decode cX6_join 26 = .ok (.aload_n 0, 1) := by decide +kernel
theorem dX6_join_27 : decode cX6_join 27 = .ok (.getfield 7, 3) := by decide +kernel
theorem dX6_join_30 : decode cX6_join 30 = .ok (.iload_n 1, 1) := by decide +kernel
theorem dX6_join_31 : decode cX6_join 31 = .ok (.iaload, 1) := by decide +kernel
theorem dX6_join_32 : decode cX6_join 32 = .ok (.aload_n 0, 1) := by decide +kernel
theorem dX6_join_33 : decode cX6_join 33 = .ok (.getfield 7, 3) := by decide +kernel
theorem dX6_join_36 : decode cX6_join 36 = .ok (.iload_n 2, 1) := by decide +kernel
theorem dX6_join_37 : decode cX6_join 37 = .ok (.iaload, 1) := by decide +kernel
theorem dX6_join_38 : decode cX6_join 38 = .ok (.if_icmp .eq 5, 3) := by decide +kernel
theorem dX6_join_41 : decode cX6_join 41 = .ok (.iconst 0, 1) := by decide +kernel
theorem dX6_join_42 : decode cX6_join 42 = .ok (.ireturn, 1) := by decide +kernel
theorem dX6_join_43 : decode cX6_join 43 = .ok (.aload_n 0, 1) := by decide +kernel
theorem dX6_join_44 : decode cX6_join 44 = .ok (.getfield 29, 3) := by decide +kernel
theorem dX6_join_47 : decode cX6_join 47 = .ok (.iload_n 1, 1) := by decide +kernel
theorem dX6_join_48 : decode cX6_join 48 = .ok (.iaload, 1) := by decide +kernel
theorem dX6_join_49 : decode cX6_join 49 = .ok (.ifCond .le 27, 3) := by decide +kernel
theorem dX6_join_52 : decode cX6_join 52 = .ok (.aload_n 0, 1) := by decide +kernel
theorem dX6_join_53 : decode cX6_join 53 = .ok (.getfield 29, 3) := by decide +kernel
theorem dX6_join_56 : decode cX6_join 56 = .ok (.iload_n 2, 1) := by decide +kernel
theorem dX6_join_57 : decode cX6_join 57 = .ok (.iaload, 1) := by decide +kernel
theorem dX6_join_58 : decode cX6_join 58 = .ok (.ifCond .le 18, 3) := by decide +kernel
theorem dX6_join_61 : decode cX6_join 61 = .ok (.aload_n 0, 1) := by decide +kernel
theorem dX6_join_62 : decode cX6_join 62 = .ok (.iload_n 1, 1) := by decide +kernel
theorem dX6_join_63 : decode cX6_join 63 = .ok (.invokevirtual 176, 3) := by decide +kernel
theorem dX6_join_66 : decode cX6_join 66 = .ok (.aload_n 0, 1) := by decide +kernel
theorem dX6_join_67 : decode cX6_join 67 = .ok (.iload_n 2, 1) := by decide +kernel
theorem dX6_join_68 : decode cX6_join 68 = .ok (.invokevirtual 179, 3) := by decide +kernel
theorem dX6_join_71 : decode cX6_join 71 = .ok (.if_icmp .lt 5, 3) := by decide +kernel
theorem dX6_join_74 : decode cX6_join 74 = .ok (.iconst 0, 1) := by decide +kernel
theorem dX6_join_75 : decode cX6_join 75 = .ok (.ireturn, 1) := by decide +kernel
theorem dX6_join_76 : decode cX6_join 76 = .ok (.aload_n 0, 1) := by decide +kernel
theorem dX6_join_77 : decode cX6_join 77 = .ok (.iload_n 1, 1) := by decide +kernel
theorem dX6_join_78 : decode cX6_join 78 = .ok (.invokevirtual 176, 3) := by decide +kernel
theorem dX6_join_81 : decode cX6_join 81 = .ok (.istore_n 3, 1) := by decide +kernel
theorem dX6_join_82 : decode cX6_join 82 = .ok (.iload_n 3, 1) := by decide +kernel
theorem dX6_join_83 : decode cX6_join 83 = .ok (.ifCond .lt 28, 3) := by decide +kernel
theorem dX6_join_86 : decode cX6_join 86 = .ok (.aload_n 0, 1) := by decide +kernel
theorem dX6_join_87 : decode cX6_join 87 = .ok (.getfield 7, 3) := by decide +kernel
theorem dX6_join_90 : decode cX6_join 90 = .ok (.iload_n 1, 1) := by decide +kernel
theorem dX6_join_91 : decode cX6_join 91 = .ok (.iaload, 1) := by decide +kernel
theorem dX6_join_92 : decode cX6_join 92 = .ok (.iconst 5, 1) := by decide +kernel
theorem dX6_join_93 : decode cX6_join 93 = .ok (.if_icmp .eq 18, 3) := by decide +kernel
theorem dX6_join_96 : decode cX6_join 96 = .ok (.aload_n 0, 1) := by decide +kernel
theorem dX6_join_97 : decode cX6_join 97 = .ok (.getfield 29, 3) := by decide +kernel
theorem dX6_join_100 : decode cX6_join 100 = .ok (.iload_n 2, 1) := by decide +kernel
theorem dX6_join_101 : decode cX6_join 101 = .ok (.iaload, 1) := by decide +kernel
theorem dX6_join_102 : decode cX6_join 102 = .ok (.ifCond .le 9, 3) := by decide +kernel
theorem dX6_join_105 : decode cX6_join 105 = .ok (.aload_n 0, 1) := by decide +kernel
theorem dX6_join_106 : decode cX6_join 106 = .ok (.iload_n 1, 1) := by decide +kernel
theorem dX6_join_107 : decode cX6_join 107 = .ok (.iload_n 3, 1) := by decide +kernel
theorem dX6_join_108 : decode cX6_join 108 = .ok (.invokevirtual 109, 3) := by decide +kernel
theorem dX6_join_111 : decode cX6_join 111 = .ok (.iconst 0, 1) := by decide +kernel
theorem dX6_join_112 : decode cX6_join 112 = .ok (.istore 4, 2) := by decide +kernel
theorem dX6_join_114 : decode cX6_join 114 = .ok (.iload 4, 2) := by decide +kernel
theorem dX6_join_116 : decode cX6_join 116 = .ok (.bipush 64, 2) := by decide +kernel
theorem dX6_join_118 : decode cX6_join 118 = .ok (.if_icmp .ge 106, 3) := by decide +kernel
theorem dX6_join_121 : decode cX6_join 121 = .ok (.bipush 64, 2) := by decide +kernel
theorem dX6_join_123 : decode cX6_join 123 = .ok (.iload_n 2, 1) := by decide +kernel
theorem dX6_join_124 : decode cX6_join 124 = .ok (.imul, 1) := by decide +kernel
theorem dX6_join_125 : decode cX6_join 125 = .ok (.iload 4, 2) := by decide +kernel
theorem dX6_join_127 : decode cX6_join 127 = .ok (.iadd, 1) := by decide +kernel
theorem dX6_join_128 : decode cX6_join 128 = .ok (.istore 5, 2) := by decide +kernel
theorem dX6_join_130 : decode cX6_join 130 = .ok (.aload_n 0, 1) := by decide +kernel
theorem dX6_join_131 : decode cX6_join 131 = .ok (.getfield 25, 3) := by decide +kernel
theorem dX6_join_134 : decode cX6_join 134 = .ok (.iload 5, 2) := by decide +kernel
theorem dX6_join_136 : decode cX6_join 136 = .ok (.baload, 1) := by decide +kernel
theorem dX6_join_137 : decode cX6_join 137 = .ok (.ifCond .eq 81, 3) := by decide +kernel
theorem dX6_join_140 : decode cX6_join 140 = .ok (.aload_n 0, 1) := by decide +kernel
theorem dX6_join_141 : decode cX6_join 141 = .ok (.getfield 25, 3) := by decide +kernel
theorem dX6_join_144 : decode cX6_join 144 = .ok (.bipush 64, 2) := by decide +kernel
theorem dX6_join_146 : decode cX6_join 146 = .ok (.iload_n 1, 1) := by decide +kernel
theorem dX6_join_147 : decode cX6_join 147 = .ok (.imul, 1) := by decide +kernel
theorem dX6_join_148 : decode cX6_join 148 = .ok (.iload 4, 2) := by decide +kernel
theorem dX6_join_150 : decode cX6_join 150 = .ok (.iadd, 1) := by decide +kernel
theorem dX6_join_151 : decode cX6_join 151 = .ok (.iconst 1, 1) := by decide +kernel
theorem dX6_join_152 : decode cX6_join 152 = .ok (.bastore, 1) := by decide +kernel
theorem dX6_join_153 : decode cX6_join 153 = .ok (.aload_n 0, 1) := by decide +kernel
theorem dX6_join_154 : decode cX6_join 154 = .ok (.getfield 16, 3) := by decide +kernel
theorem dX6_join_157 : decode cX6_join 157 = .ok (.bipush 64, 2) := by decide +kernel
theorem dX6_join_159 : decode cX6_join 159 = .ok (.iload_n 1, 1) := by decide +kernel
theorem dX6_join_160 : decode cX6_join 160 = .ok (.imul, 1) := by decide +kernel
theorem dX6_join_161 : decode cX6_join 161 = .ok (.iload 4, 2) := by decide +kernel
theorem dX6_join_163 : decode cX6_join 163 = .ok (.iadd, 1) := by decide +kernel
theorem dX6_join_164 : decode cX6_join 164 = .ok (.aload_n 0, 1) := by decide +kernel
theorem dX6_join_165 : decode cX6_join 165 = .ok (.getfield 16, 3) := by decide +kernel
theorem dX6_join_168 : decode cX6_join 168 = .ok (.iload 5, 2) := by decide +kernel
theorem dX6_join_170 : decode cX6_join 170 = .ok (.iaload, 1) := by decide +kernel
theorem dX6_join_171 : decode cX6_join 171 = .ok (.iastore, 1) := by decide +kernel
theorem dX6_join_172 : decode cX6_join 172 = .ok (.aload_n 0, 1) := by decide +kernel
theorem dX6_join_173 : decode cX6_join 173 = .ok (.getfield 19, 3) := by decide +kernel
theorem dX6_join_176 : decode cX6_join 176 = .ok (.bipush 64, 2) := by decide +kernel
theorem dX6_join_178 : decode cX6_join 178 = .ok (.iload_n 1, 1) := by decide +kernel
theorem dX6_join_179 : decode cX6_join 179 = .ok (.imul, 1) := by decide +kernel
theorem dX6_join_180 : decode cX6_join 180 = .ok (.iload 4, 2) := by decide +kernel
theorem dX6_join_182 : decode cX6_join 182 = .ok (.iadd, 1) := by decide +kernel
theorem dX6_join_183 : decode cX6_join 183 = .ok (.aload_n 0, 1) := by decide +kernel
theorem dX6_join_184 : decode cX6_join 184 = .ok (.getfield 19, 3) := by decide +kernel
theorem dX6_join_187 : decode cX6_join 187 = .ok (.iload 5, 2) := by decide +kernel
theorem dX6_join_189 : decode cX6_join 189 = .ok (.iaload, 1) := by decide +kernel
theorem dX6_join_190 : decode cX6_join 190 = .ok (.iastore, 1) := by decide +kernel
theorem dX6_join_191 : decode cX6_join 191 = .ok (.aload_n 0, 1) := by decide +kernel
theorem dX6_join_192 : decode cX6_join 192 = .ok (.getfield 22, 3) := by decide +kernel
theorem dX6_join_195 : decode cX6_join 195 = .ok (.bipush 64, 2) := by decide +kernel
theorem dX6_join_197 : decode cX6_join 197 = .ok (.iload_n 1, 1) := by decide +kernel
theorem dX6_join_198 : decode cX6_join 198 = .ok (.imul, 1) := by decide +kernel
theorem dX6_join_199 : decode cX6_join 199 = .ok (.iload 4, 2) := by decide +kernel
theorem dX6_join_201 : decode cX6_join 201 = .ok (.iadd, 1) := by decide +kernel
theorem dX6_join_202 : decode cX6_join 202 = .ok (.aload_n 0, 1) := by decide +kernel
theorem dX6_join_203 : decode cX6_join 203 = .ok (.getfield 22, 3) := by decide +kernel
theorem dX6_join_206 : decode cX6_join 206 = .ok (.iload 5, 2) := by decide +kernel
theorem dX6_join_208 : decode cX6_join 208 = .ok (.iaload, 1) := by decide +kernel
theorem dX6_join_209 : decode cX6_join 209 = .ok (.iastore, 1) := by decide +kernel
theorem dX6_join_210 : decode cX6_join 210 = .ok (.aload_n 0, 1) := by decide +kernel
theorem dX6_join_211 : decode cX6_join 211 = .ok (.getfield 25, 3) := by decide +kernel
theorem dX6_join_214 : decode cX6_join 214 = .ok (.iload 5, 2) := by decide +kernel
theorem dX6_join_216 : decode cX6_join 216 = .ok (.iconst 0, 1) := by decide +kernel
theorem dX6_join_217 : decode cX6_join 217 = .ok (.bastore, 1) := by decide +kernel
theorem dX6_join_218 : decode cX6_join 218 = .ok (.iinc 4 1, 3) := by decide +kernel
theorem dX6_join_221 : decode cX6_join 221 = .ok (.goto (-107), 3) := by decide +kernel
theorem dX6_join_224 : decode cX6_join 224 = .ok (.aload_n 0, 1) := by decide +kernel
theorem dX6_join_225 : decode cX6_join 225 = .ok (.getfield 13, 3) := by decide +kernel
theorem dX6_join_228 : decode cX6_join 228 = .ok (.iload_n 2, 1) := by decide +kernel
theorem dX6_join_229 : decode cX6_join 229 = .ok (.iaload, 1) := by decide +kernel
theorem dX6_join_230 : decode cX6_join 230 = .ok (.ifCond .lt 92, 3) := by decide +kernel
theorem dX6_join_233 : decode cX6_join 233 = .ok (.aload_n 0, 1) := by decide +kernel
theorem dX6_join_234 : decode cX6_join 234 = .ok (.getfield 13, 3) := by decide +kernel
theorem dX6_join_237 : decode cX6_join 237 = .ok (.iload_n 1, 1) := by decide +kernel
theorem dX6_join_238 : decode cX6_join 238 = .ok (.iaload, 1) := by decide +kernel
theorem dX6_join_239 : decode cX6_join 239 = .ok (.ifCond .ge 18, 3) := by decide +kernel
theorem dX6_join_242 : decode cX6_join 242 = .ok (.aload_n 0, 1) := by decide +kernel
theorem dX6_join_243 : decode cX6_join 243 = .ok (.getfield 13, 3) := by decide +kernel
theorem dX6_join_246 : decode cX6_join 246 = .ok (.iload_n 1, 1) := by decide +kernel
theorem dX6_join_247 : decode cX6_join 247 = .ok (.aload_n 0, 1) := by decide +kernel
theorem dX6_join_248 : decode cX6_join 248 = .ok (.getfield 13, 3) := by decide +kernel
theorem dX6_join_251 : decode cX6_join 251 = .ok (.iload_n 2, 1) := by decide +kernel
theorem dX6_join_252 : decode cX6_join 252 = .ok (.iaload, 1) := by decide +kernel
theorem dX6_join_253 : decode cX6_join 253 = .ok (.iastore, 1) := by decide +kernel
theorem dX6_join_254 : decode cX6_join 254 = .ok (.goto 68, 3) := by decide +kernel
theorem dX6_join_257 : decode cX6_join 257 = .ok (.aload_n 0, 1) := by decide +kernel
theorem dX6_join_258 : decode cX6_join 258 = .ok (.getfield 7, 3) := by decide +kernel
theorem dX6_join_261 : decode cX6_join 261 = .ok (.iload_n 1, 1) := by decide +kernel
theorem dX6_join_262 : decode cX6_join 262 = .ok (.iaload, 1) := by decide +kernel
theorem dX6_join_263 : decode cX6_join 263 = .ok (.iconst 5, 1) := by decide +kernel
theorem dX6_join_264 : decode cX6_join 264 = .ok (.if_icmp .ne 46, 3) := by decide +kernel
theorem dX6_join_267 : decode cX6_join 267 = .ok (.aload_n 0, 1) := by decide +kernel
theorem dX6_join_268 : decode cX6_join 268 = .ok (.getfield 13, 3) := by decide +kernel
theorem dX6_join_271 : decode cX6_join 271 = .ok (.iload_n 1, 1) := by decide +kernel
theorem dX6_join_272 : decode cX6_join 272 = .ok (.aload_n 0, 1) := by decide +kernel
theorem dX6_join_273 : decode cX6_join 273 = .ok (.iload_n 1, 1) := by decide +kernel
theorem dX6_join_274 : decode cX6_join 274 = .ok (.aload_n 0, 1) := by decide +kernel
theorem dX6_join_275 : decode cX6_join 275 = .ok (.getfield 13, 3) := by decide +kernel
theorem dX6_join_278 : decode cX6_join 278 = .ok (.iload_n 1, 1) := by decide +kernel
theorem dX6_join_279 : decode cX6_join 279 = .ok (.iaload, 1) := by decide +kernel
theorem dX6_join_280 : decode cX6_join 280 = .ok (.aload_n 0, 1) := by decide +kernel
theorem dX6_join_281 : decode cX6_join 281 = .ok (.getfield 13, 3) := by decide +kernel
theorem dX6_join_284 : decode cX6_join 284 = .ok (.iload_n 2, 1) := by decide +kernel
theorem dX6_join_285 : decode cX6_join 285 = .ok (.iaload, 1) := by decide +kernel
theorem dX6_join_286 : decode cX6_join 286 = .ok (.invokevirtual 173, 3) := by decide +kernel
theorem dX6_join_289 : decode cX6_join 289 = .ok (.iastore, 1) := by decide +kernel
theorem dX6_join_290 : decode cX6_join 290 = .ok (.aload_n 0, 1) := by decide +kernel
theorem dX6_join_291 : decode cX6_join 291 = .ok (.getfield 16, 3) := by decide +kernel
theorem dX6_join_294 : decode cX6_join 294 = .ok (.bipush 64, 2) := by decide +kernel
theorem dX6_join_296 : decode cX6_join 296 = .ok (.iload_n 1, 1) := by decide +kernel
theorem dX6_join_297 : decode cX6_join 297 = .ok (.imul, 1) := by decide +kernel
theorem dX6_join_298 : decode cX6_join 298 = .ok (.aload_n 0, 1) := by decide +kernel
theorem dX6_join_299 : decode cX6_join 299 = .ok (.getfield 13, 3) := by decide +kernel
theorem dX6_join_302 : decode cX6_join 302 = .ok (.iload_n 1, 1) := by decide +kernel
theorem dX6_join_303 : decode cX6_join 303 = .ok (.iaload, 1) := by decide +kernel
theorem dX6_join_304 : decode cX6_join 304 = .ok (.iadd, 1) := by decide +kernel
theorem dX6_join_305 : decode cX6_join 305 = .ok (.iconst (-1), 1) := by decide +kernel
theorem dX6_join_306 : decode cX6_join 306 = .ok (.iastore, 1) := by decide +kernel
theorem dX6_join_307 : decode cX6_join 307 = .ok (.goto 15, 3) := by decide +kernel
theorem dX6_join_310 : decode cX6_join 310 = .ok (.aload_n 0, 1) := by decide +kernel
theorem dX6_join_311 : decode cX6_join 311 = .ok (.iload_n 1, 1) := by decide +kernel
theorem dX6_join_312 : decode cX6_join 312 = .ok (.aload_n 0, 1) := by decide +kernel
theorem dX6_join_313 : decode cX6_join 313 = .ok (.getfield 13, 3) := by decide +kernel
theorem dX6_join_316 : decode cX6_join 316 = .ok (.iload_n 2, 1) := by decide +kernel
theorem dX6_join_317 : decode cX6_join 317 = .ok (.iaload, 1) := by decide +kernel
theorem dX6_join_318 : decode cX6_join 318 = .ok (.iload_n 3, 1) := by decide +kernel
theorem dX6_join_319 : decode cX6_join 319 = .ok (.invokevirtual 99, 3) := by decide +kernel
theorem dX6_join_322 : decode cX6_join 322 = .ok (.aload_n 0, 1) := by decide +kernel
theorem dX6_join_323 : decode cX6_join 323 = .ok (.getfield 29, 3) := by decide +kernel
theorem dX6_join_326 : decode cX6_join 326 = .ok (.iload_n 1, 1) := by decide +kernel
theorem dX6_join_327 : decode cX6_join 327 = .ok (.dup2, 1) := by decide +kernel
theorem dX6_join_328 : decode cX6_join 328 = .ok (.iaload, 1) := by decide +kernel
theorem dX6_join_329 : decode cX6_join 329 = .ok (.aload_n 0, 1) := by decide +kernel
theorem dX6_join_330 : decode cX6_join 330 = .ok (.getfield 29, 3) := by decide +kernel
theorem dX6_join_333 : decode cX6_join 333 = .ok (.iload_n 2, 1) := by decide +kernel
theorem dX6_join_334 : decode cX6_join 334 = .ok (.iaload, 1) := by decide +kernel
theorem dX6_join_335 : decode cX6_join 335 = .ok (.iadd, 1) := by decide +kernel
theorem dX6_join_336 : decode cX6_join 336 = .ok (.iastore, 1) := by decide +kernel
theorem dX6_join_337 : decode cX6_join 337 = .ok (.aload_n 0, 1) := by decide +kernel
theorem dX6_join_338 : decode cX6_join 338 = .ok (.getfield 29, 3) := by decide +kernel
theorem dX6_join_341 : decode cX6_join 341 = .ok (.iload_n 2, 1) := by decide +kernel
theorem dX6_join_342 : decode cX6_join 342 = .ok (.iconst 0, 1) := by decide +kernel
theorem dX6_join_343 : decode cX6_join 343 = .ok (.iastore, 1) := by decide +kernel
theorem dX6_join_344 : decode cX6_join 344 = .ok (.aload_n 0, 1) := by decide +kernel
theorem dX6_join_345 : decode cX6_join 345 = .ok (.getfield 13, 3) := by decide +kernel
theorem dX6_join_348 : decode cX6_join 348 = .ok (.iload_n 2, 1) := by decide +kernel
theorem dX6_join_349 : decode cX6_join 349 = .ok (.iconst (-1), 1) := by decide +kernel
theorem dX6_join_350 : decode cX6_join 350 = .ok (.iastore, 1) := by decide +kernel
theorem dX6_join_351 : decode cX6_join 351 = .ok (.aload_n 0, 1) := by decide +kernel
theorem dX6_join_352 : decode cX6_join 352 = .ok (.getfield 38, 3) := by decide +kernel
theorem dX6_join_355 : decode cX6_join 355 = .ok (.iload_n 1, 1) := by decide +kernel
theorem dX6_join_356 : decode cX6_join 356 = .ok (.aload_n 0, 1) := by decide +kernel
theorem dX6_join_357 : decode cX6_join 357 = .ok (.getfield 7, 3) := by decide +kernel
theorem dX6_join_360 : decode cX6_join 360 = .ok (.iload_n 1, 1) := by decide +kernel
theorem dX6_join_361 : decode cX6_join 361 = .ok (.iaload, 1) := by decide +kernel
theorem dX6_join_362 : decode cX6_join 362 = .ok (.iconst 4, 1) := by decide +kernel
theorem dX6_join_363 : decode cX6_join 363 = .ok (.if_icmp .ne 12, 3) := by decide +kernel
theorem dX6_join_366 : decode cX6_join 366 = .ok (.aload_n 0, 1) := by decide +kernel
theorem dX6_join_367 : decode cX6_join 367 = .ok (.getfield 29, 3) := by decide +kernel
theorem dX6_join_370 : decode cX6_join 370 = .ok (.iload_n 1, 1) := by decide +kernel
theorem dX6_join_371 : decode cX6_join 371 = .ok (.iaload, 1) := by decide +kernel
theorem dX6_join_372 : decode cX6_join 372 = .ok (.goto 4, 3) := by decide +kernel
theorem dX6_join_375 : decode cX6_join 375 = .ok (.iconst 0, 1) := by decide +kernel
theorem dX6_join_376 : decode cX6_join 376 = .ok (.iastore, 1) := by decide +kernel
theorem dX6_join_377 : decode cX6_join 377 = .ok (.aload_n 0, 1) := by decide +kernel
theorem dX6_join_378 : decode cX6_join 378 = .ok (.getfield 38, 3) := by decide +kernel
theorem dX6_join_381 : decode cX6_join 381 = .ok (.iload_n 2, 1) := by decide +kernel
theorem dX6_join_382 : decode cX6_join 382 = .ok (.iconst 0, 1) := by decide +kernel
theorem dX6_join_383 : decode cX6_join 383 = .ok (.iastore, 1) := by decide +kernel
theorem dX6_join_384 : decode cX6_join 384 = .ok (.iconst 1, 1) := by decide +kernel
theorem dX6_join_385 : decode cX6_join 385 = .ok (.ireturn, 1) := by decide +kernel
set_option maxRecDepth 20000 in
theorem ggX6_clear_X6_isTree : GoodIn wsX6_clear wsX6_isTree := goodIn_r _ [7, 8, 9, 10, 11, 12, 13, 14, 15, 16, 17, 18, 19, 20, 21, 22, 23, 24, 25, 26, 27, 28, 29, 30, 31, 32, 33, 34, 35, 36] (by decide +kernel) (by decide +kernel)
set_option maxRecDepth 20000 in
theorem gX6_clear_X6_isTree : GoodIn wsX6_clear (wsV RX6 154 RX6 yX6_isTree wsX6_isTree) := goodIn_app (goodIn_of _ (by decide +kernel)) ggX6_clear_X6_isTree
theorem dX6_clear_0 : decode cX6_clear 0 = .ok (.aload_n 0, 1) := by decide +kernel
theorem dX6_clear_1 : decode cX6_clear 1 = .ok (.iconst 0, 1) := by decide +kernel
theorem dX6_clear_2 : decode cX6_clear 2 = .ok (.putfield 77, 3) := by decide +kernel
theorem dX6_clear_5 : decode cX6_clear 5 = .ok (.aload_n 0, 1) := by decide +kernel
theorem dX6_clear_6 : decode cX6_clear 6 = .ok (.iload_n 1, 1) := by decide +kernel
theorem dX6_clear_7 : decode cX6_clear 7 = .ok (.invokevirtual 154, 3) := by decide +kernel
theorem dX6_clear_10 : decode cX6_clear 10 = .ok (.ifCond .ne 5, 3) := by decide +kernel
theorem dX6_clear_13 : decode cX6_clear 13 = .ok (.iconst (-1), 1) := by decide +kernel
theorem dX6_clear_14 : decode cX6_clear 14 = .ok (.ireturn, 1) := by decide +kernel
theorem dX6_clear_15 : decode cX6_clear 15 = .ok (.aload_n 0, 1) := by decide +kernel
theorem dX6_clear_16 : decode cX6_clear 16 = .ok (.getfield 41, 3) := by decide +kernel
theorem dX6_clear_19 : decode cX6_clear 19 = .ok (.iload_n 1, 1) := by decide +kernel
theorem dX6_clear_20 : decode cX6_clear 20 = .ok (.iaload, 1) := by decide +kernel
theorem dX6_clear_21 : decode cX6_clear 21 = .ok (.istore_n 2, 1) := by decide +kernel
theorem dX6_clear_22 : decode cX6_clear 22 = .ok (.aload_n 0, 1) := by decide +kernel
theorem dX6_clear_23 : decode cX6_clear 23 = .ok (.getfield 41, 3) := by decide +kernel
theorem dX6_clear_26 : decode cX6_clear 26 = .ok (.iload_n 1, 1) := by decide +kernel
theorem dX6_clear_27 : decode cX6_clear 27 = .ok (.iconst 0, 1) := by decide +kernel
theorem dX6_clear_28 : decode cX6_clear 28 = .ok (.iastore, 1) := by decide +kernel
theorem dX6_clear_29 : decode cX6_clear 29 = .ok (.iload_n 2, 1) := by decide +kernel
theorem dX6_clear_30 : decode cX6_clear 30 = .ok (.ireturn, 1) := by decide +kernel
set_option maxRecDepth 20000 in
theorem ggX6_look_X6_isTree : GoodIn wsX6_look wsX6_isTree := goodIn_r _ [10, 11, 23, 24, 25, 26, 27, 28, 29, 30, 31, 32, 33, 34, 35, 36, 37, 38, 39, 40, 41, 42, 43, 44, 45, 46, 47, 48, 49, 50] (by decide +kernel) (by decide +kernel)
set_option maxRecDepth 20000 in
theorem gX6_look_X6_isTree : GoodIn wsX6_look (wsV RX6 154 RX6 yX6_isTree wsX6_isTree) := goodIn_app (goodIn_of _ (by decide +kernel)) ggX6_look_X6_isTree
set_option maxRecDepth 20000 in
theorem ggX6_look_X6_isKey : GoodIn wsX6_look wsX6_isKey := goodIn_r _ [14] (by decide +kernel) (by decide +kernel)
set_option maxRecDepth 20000 in
theorem gX6_look_X6_isKey : GoodIn wsX6_look (va_wsS RX6 158 yX6_isKey wsX6_isKey) := goodIn_app (goodIn_of _ (by decide +kernel)) ggX6_look_X6_isKey
set_option maxRecDepth 20000 in
theorem ggX6_look_X6_depthOf : GoodIn wsX6_look wsX6_depthOf := goodIn_r _ [18, 3, 23, 24, 25, 26, 27, 28, 29, 30, 31, 32, 33, 34, 35, 36, 37, 38, 39, 40, 41, 42, 43, 44, 45, 46, 47, 48, 49, 50] (by decide +kernel) (by decide +kernel)
set_option maxRecDepth 20000 in
theorem gX6_look_X6_depthOf : GoodIn wsX6_look (wsV RX6 125 RX6 yX6_depthOf wsX6_depthOf) := goodIn_app (goodIn_of _ (by decide +kernel)) ggX6_look_X6_depthOf
set_option maxRecDepth 20000 in
theorem ggX6_look_X6_sizeOf : GoodIn wsX6_look wsX6_sizeOf := goodIn_r _ [22, 4, 5, 19, 20, 21, 9, 23, 24, 25, 26, 27, 28, 29, 30, 31, 32, 33, 34, 35, 36, 37, 38, 39, 40, 41, 42, 43, 44, 45, 46, 47, 48, 49, 50] (by decide +kernel) (by decide +kernel)
set_option maxRecDepth 20000 in
theorem gX6_look_X6_sizeOf : GoodIn wsX6_look (wsV RX6 88 RX6 yX6_sizeOf wsX6_sizeOf) := goodIn_app (goodIn_of _ (by decide +kernel)) ggX6_look_X6_sizeOf
theorem dX6_look_0 : decode cX6_look 0 = .ok (.aload_n 0, 1) := by decide +kernel
theorem dX6_look_1 : decode cX6_look 1 = .ok (.aload_n 0, 1) := by decide +kernel
theorem dX6_look_2 : decode cX6_look 2 = .ok (.iload_n 1, 1) := by decide +kernel
theorem dX6_look_3 : decode cX6_look 3 = .ok (.invokevirtual 154, 3) := by decide +kernel
theorem dX6_look_6 : decode cX6_look 6 = .ok (.ifCond .eq 37, 3) := by decide +kernel
theorem dX6_look_9 : decode cX6_look 9 = .ok (.iload_n 2, 1) := by decide +kernel
theorem dX6_look_10 : decode cX6_look 10 = .ok (.invokestatic 158, 3) := by decide +kernel
theorem dX6_look_13 : decode cX6_look 13 = .ok (.ifCond .eq 30, 3) := by decide +kernel
theorem dX6_look_16 : decode cX6_look 16 = .ok (.iload_n 3, 1) := by decide +kernel
theorem dX6_look_17 : decode cX6_look 17 = .ok (.ifCond .lt 26, 3) := by decide +kernel
theorem dX6_look_20 : decode cX6_look 20 = .ok (.iload_n 3, 1) := by decide +kernel
theorem dX6_look_21 : decode cX6_look 21 = .ok (.iconst 4, 1) := by decide +kernel
theorem dX6_look_22 : decode cX6_look 22 = .ok (.if_icmp .gt 21, 3) := by decide +kernel
theorem dX6_look_25 : decode cX6_look 25 = .ok (.aload_n 0, 1) := by decide +kernel
theorem dX6_look_26 : decode cX6_look 26 = .ok (.getfield 25, 3) := by decide +kernel
theorem dX6_look_29 : decode cX6_look 29 = .ok (.bipush 64, 2) := by decide +kernel
theorem dX6_look_31 : decode cX6_look 31 = .ok (.iload_n 1, 1) := by decide +kernel
theorem dX6_look_32 : decode cX6_look 32 = .ok (.imul, 1) := by decide +kernel
theorem dX6_look_33 : decode cX6_look 33 = .ok (.iload_n 2, 1) := by decide +kernel
theorem dX6_look_34 : decode cX6_look 34 = .ok (.iadd, 1) := by decide +kernel
theorem dX6_look_35 : decode cX6_look 35 = .ok (.baload, 1) := by decide +kernel
theorem dX6_look_36 : decode cX6_look 36 = .ok (.ifCond .eq 7, 3) := by decide +kernel
theorem dX6_look_39 : decode cX6_look 39 = .ok (.iconst 0, 1) := by decide +kernel
theorem dX6_look_40 : decode cX6_look 40 = .ok (.goto 4, 3) := by decide +kernel
theorem dX6_look_43 : decode cX6_look 43 = .ok (.iconst 1, 1) := by decide +kernel
theorem dX6_look_44 : decode cX6_look 44 = .ok (.putfield 77, 3) := by decide +kernel
theorem dX6_look_47 : decode cX6_look 47 = .ok (.aload_n 0, 1) := by decide +kernel
theorem dX6_look_48 : decode cX6_look 48 = .ok (.getfield 77, 3) := by decide +kernel
theorem dX6_look_51 : decode cX6_look 51 = .ok (.ifCond .le 5, 3) := by decide +kernel
theorem dX6_look_54 : decode cX6_look 54 = .ok (.iconst 0, 1) := by decide +kernel
theorem dX6_look_55 : decode cX6_look 55 = .ok (.ireturn, 1) := by decide +kernel
theorem dX6_look_56 : decode cX6_look 56 = .ok (.bipush 64, 2) := by decide +kernel
theorem dX6_look_58 : decode cX6_look 58 = .ok (.iload_n 1, 1) := by decide +kernel
theorem dX6_look_59 : decode cX6_look 59 = .ok (.imul, 1) := by decide +kernel
theorem dX6_look_60 : decode cX6_look 60 = .ok (.iload_n 2, 1) := by decide +kernel
theorem dX6_look_61 : decode cX6_look 61 = .ok (.iadd, 1) := by decide +kernel
theorem dX6_look_62 : decode cX6_look 62 = .ok (.istore 4, 2) := by decide +kernel
theorem dX6_look_64 : decode cX6_look 64 = .ok (.iload_n 3, 1) := by decide +kernel
theorem dX6_look_65 : decode cX6_look 65 = .ok (.ifCond .ne 12, 3) := by decide +kernel
theorem dX6_look_68 : decode cX6_look 68 = .ok (.aload_n 0, 1) := by decide +kernel
theorem dX6_look_69 : decode cX6_look 69 = .ok (.iload_n 1, 1) := by decide +kernel
theorem dX6_look_70 : decode cX6_look 70 = .ok (.iload_n 2, 1) := by decide +kernel
theorem dX6_look_71 : decode cX6_look 71 = .ok (.invokevirtual 125, 3) := by decide +kernel
theorem dX6_look_74 : decode cX6_look 74 = .ok (.goto 54, 3) := by decide +kernel
theorem dX6_look_77 : decode cX6_look 77 = .ok (.iload_n 3, 1) := by decide +kernel
theorem dX6_look_78 : decode cX6_look 78 = .ok (.iconst 1, 1) := by decide +kernel
theorem dX6_look_79 : decode cX6_look 79 = .ok (.if_icmp .ne 13, 3) := by decide +kernel
theorem dX6_look_82 : decode cX6_look 82 = .ok (.aload_n 0, 1) := by decide +kernel
theorem dX6_look_83 : decode cX6_look 83 = .ok (.getfield 16, 3) := by decide +kernel
theorem dX6_look_86 : decode cX6_look 86 = .ok (.iload 4, 2) := by decide +kernel
theorem dX6_look_88 : decode cX6_look 88 = .ok (.iaload, 1) := by decide +kernel
theorem dX6_look_89 : decode cX6_look 89 = .ok (.goto 39, 3) := by decide +kernel
theorem dX6_look_92 : decode cX6_look 92 = .ok (.iload_n 3, 1) := by decide +kernel
theorem dX6_look_93 : decode cX6_look 93 = .ok (.iconst 2, 1) := by decide +kernel
theorem dX6_look_94 : decode cX6_look 94 = .ok (.if_icmp .ne 13, 3) := by decide +kernel
theorem dX6_look_97 : decode cX6_look 97 = .ok (.aload_n 0, 1) := by decide +kernel
theorem dX6_look_98 : decode cX6_look 98 = .ok (.getfield 19, 3) := by decide +kernel
theorem dX6_look_101 : decode cX6_look 101 = .ok (.iload 4, 2) := by decide +kernel
theorem dX6_look_103 : decode cX6_look 103 = .ok (.iaload, 1) := by decide +kernel
theorem dX6_look_104 : decode cX6_look 104 = .ok (.goto 24, 3) := by decide +kernel
theorem dX6_look_107 : decode cX6_look 107 = .ok (.iload_n 3, 1) := by decide +kernel
theorem dX6_look_108 : decode cX6_look 108 = .ok (.iconst 3, 1) := by decide +kernel
theorem dX6_look_109 : decode cX6_look 109 = .ok (.if_icmp .ne 13, 3) := by decide +kernel
theorem dX6_look_112 : decode cX6_look 112 = .ok (.aload_n 0, 1) := by decide +kernel
theorem dX6_look_113 : decode cX6_look 113 = .ok (.getfield 22, 3) := by decide +kernel
theorem dX6_look_116 : decode cX6_look 116 = .ok (.iload 4, 2) := by decide +kernel
theorem dX6_look_118 : decode cX6_look 118 = .ok (.iaload, 1) := by decide +kernel
theorem dX6_look_119 : decode cX6_look 119 = .ok (.goto 9, 3) := by decide +kernel
theorem dX6_look_122 : decode cX6_look 122 = .ok (.aload_n 0, 1) := by decide +kernel
theorem dX6_look_123 : decode cX6_look 123 = .ok (.iload_n 1, 1) := by decide +kernel
theorem dX6_look_124 : decode cX6_look 124 = .ok (.iload_n 2, 1) := by decide +kernel
theorem dX6_look_125 : decode cX6_look 125 = .ok (.invokevirtual 88, 3) := by decide +kernel
theorem dX6_look_128 : decode cX6_look 128 = .ok (.ireturn, 1) := by decide +kernel
set_option maxRecDepth 20000 in
theorem ggX6_deepest_X6_depthOf : GoodIn wsX6_deepest wsX6_depthOf := goodIn_r _ [6, 7, 8, 9, 10, 11, 12, 13, 14, 15, 16, 17, 18, 19, 20, 21, 22, 23, 24, 25, 26, 27, 28, 29, 30, 31, 32, 33, 34, 35] (by decide +kernel) (by decide +kernel)
set_option maxRecDepth 20000 in
theorem gX6_deepest_X6_depthOf : GoodIn wsX6_deepest (wsV RX6 125 RX6 yX6_depthOf wsX6_depthOf) := goodIn_app (goodIn_of _ (by decide +kernel)) ggX6_deepest_X6_depthOf
theorem dX6_deepest_0 : decode cX6_deepest 0 = .ok (.iconst 0, 1) := by decide +kernel
theorem dX6_deepest_1 : decode cX6_deepest 1 = .ok (.istore_n 2, 1) := by decide +kernel
theorem dX6_deepest_2 : decode cX6_deepest 2 = .ok (.iconst 0, 1) := by decide +kernel
theorem dX6_deepest_3 : decode cX6_deepest 3 = .ok (.istore_n 3, 1) := by decide +kernel
theorem dX6_deepest_4 : decode cX6_deepest 4 = .ok (.iload_n 3, 1) := by decide +kernel
theorem dX6_deepest_5 : decode cX6_deepest 5 = .ok (.bipush 64, 2) := by decide +kernel
theorem dX6_deepest_7 : decode cX6_deepest 7 = .ok (.if_icmp .ge 48, 3) := by decide +kernel
theorem dX6_deepest_10 : decode cX6_deepest 10 = .ok (.aload_n 0, 1) := by decide +kernel
theorem dX6_deepest_11 : decode cX6_deepest 11 = .ok (.getfield 25, 3) := by decide +kernel
theorem dX6_deepest_14 : decode cX6_deepest 14 = .ok (.bipush 64, 2) := by decide +kernel
theorem dX6_deepest_16 : decode cX6_deepest 16 = .ok (.iload_n 1, 1) := by decide +kernel
theorem dX6_deepest_17 : decode cX6_deepest 17 = .ok (.imul, 1) := by decide +kernel
theorem dX6_deepest_18 : decode cX6_deepest 18 = .ok (.iload_n 3, 1) := by decide +kernel
theorem dX6_deepest_19 : decode cX6_deepest 19 = .ok (.iadd, 1) := by decide +kernel
theorem dX6_deepest_20 : decode cX6_deepest 20 = .ok (.baload, 1) := by decide +kernel
theorem dX6_deepest_21 : decode cX6_deepest 21 = .ok (.ifCond .eq 12, 3) := by decide +kernel
theorem dX6_deepest_24 : decode cX6_deepest 24 = .ok (.aload_n 0, 1) := by decide +kernel
theorem dX6_deepest_25 : decode cX6_deepest 25 = .ok (.iload_n 1, 1) := by decide +kernel
theorem dX6_deepest_26 : decode cX6_deepest 26 = .ok (.iload_n 3, 1) := by decide +kernel
theorem dX6_deepest_27 : decode cX6_deepest 27 = .ok (.invokevirtual 125, 3) := by decide +kernel
theorem dX6_deepest_30 : decode cX6_deepest 30 = .ok (.goto 4, 3) := by decide +kernel
theorem dX6_deepest_33 : decode cX6_deepest 33 = .ok (.iconst 0, 1) := by decide +kernel
theorem dX6_deepest_34 : decode cX6_deepest 34 = .ok (.istore 4, 2) := by decide +kernel
theorem dX6_deepest_36 : decode cX6_deepest 36 = .ok (.iload 4, 2) := by decide +kernel
theorem dX6_deepest_38 : decode cX6_deepest 38 = .ok (.iload_n 2, 1) := by decide +kernel
theorem dX6_deepest_39 : decode cX6_deepest 39 = .ok (.if_icmp .le 8, 3) := by decide +kernel
theorem dX6_deepest_42 : decode cX6_deepest 42 = .ok (.iload 4, 2) := by decide +kernel
theorem dX6_deepest_44 : decode cX6_deepest 44 = .ok (.goto 4, 3) := by decide +kernel
theorem dX6_deepest_47 : decode cX6_deepest 47 = .ok (.iload_n 2, 1) := by decide +kernel
theorem dX6_deepest_48 : decode cX6_deepest 48 = .ok (.istore_n 2, 1) := by decide +kernel
theorem dX6_deepest_49 : decode cX6_deepest 49 = .ok (.iinc 3 1, 3) := by decide +kernel
theorem dX6_deepest_52 : decode cX6_deepest 52 = .ok (.goto (-48), 3) := by decide +kernel
theorem dX6_deepest_55 : decode cX6_deepest 55 = .ok (.iload_n 2, 1) := by decide +kernel
theorem dX6_deepest_56 : decode cX6_deepest 56 = .ok (.ireturn, 1) := by decide +kernel
set_option maxRecDepth 20000 in
theorem ggX6_potential_X6_sizeOf : GoodIn wsX6_potential wsX6_sizeOf := goodIn_r _ [6, 7, 8, 2, 3, 4, 5, 9, 10, 11, 12, 13, 14, 15, 16, 17, 18, 19, 20, 21, 22, 23, 24, 25, 26, 27, 28, 29, 30, 31, 32, 33, 34, 35, 36] (by decide +kernel) (by decide +kernel)
set_option maxRecDepth 20000 in
theorem gX6_potential_X6_sizeOf : GoodIn wsX6_potential (wsV RX6 88 RX6 yX6_sizeOf wsX6_sizeOf) := goodIn_app (goodIn_of _ (by decide +kernel)) ggX6_potential_X6_sizeOf
theorem dX6_potential_0 : decode cX6_potential 0 = .ok (.iconst 0, 1) := by decide +kernel
theorem dX6_potential_1 : decode cX6_potential 1 = .ok (.istore_n 2, 1) := by decide +kernel
theorem dX6_potential_2 : decode cX6_potential 2 = .ok (.iconst 0, 1) := by decide +kernel
theorem dX6_potential_3 : decode cX6_potential 3 = .ok (.istore_n 3, 1) := by decide +kernel
theorem dX6_potential_4 : decode cX6_potential 4 = .ok (.iload_n 3, 1) := by decide +kernel
theorem dX6_potential_5 : decode cX6_potential 5 = .ok (.bipush 64, 2) := by decide +kernel
theorem dX6_potential_7 : decode cX6_potential 7 = .ok (.if_icmp .ge 53, 3) := by decide +kernel
theorem dX6_potential_10 : decode cX6_potential 10 = .ok (.aload_n 0, 1) := by decide +kernel
theorem dX6_potential_11 : decode cX6_potential 11 = .ok (.getfield 25, 3) := by decide +kernel
theorem dX6_potential_14 : decode cX6_potential 14 = .ok (.bipush 64, 2) := by decide +kernel
theorem dX6_potential_16 : decode cX6_potential 16 = .ok (.iload_n 1, 1) := by decide +kernel
theorem dX6_potential_17 : decode cX6_potential 17 = .ok (.imul, 1) := by decide +kernel
theorem dX6_potential_18 : decode cX6_potential 18 = .ok (.iload_n 3, 1) := by decide +kernel
theorem dX6_potential_19 : decode cX6_potential 19 = .ok (.iadd, 1) := by decide +kernel
theorem dX6_potential_20 : decode cX6_potential 20 = .ok (.baload, 1) := by decide +kernel
theorem dX6_potential_21 : decode cX6_potential 21 = .ok (.ifCond .eq 12, 3) := by decide +kernel
theorem dX6_potential_24 : decode cX6_potential 24 = .ok (.aload_n 0, 1) := by decide +kernel
theorem dX6_potential_25 : decode cX6_potential 25 = .ok (.iload_n 1, 1) := by decide +kernel
theorem dX6_potential_26 : decode cX6_potential 26 = .ok (.iload_n 3, 1) := by decide +kernel
theorem dX6_potential_27 : decode cX6_potential 27 = .ok (.invokevirtual 88, 3) := by decide +kernel
theorem dX6_potential_30 : decode cX6_potential 30 = .ok (.goto 4, 3) := by decide +kernel
theorem dX6_potential_33 : decode cX6_potential 33 = .ok (.iconst 0, 1) := by decide +kernel
theorem dX6_potential_34 : decode cX6_potential 34 = .ok (.istore 4, 2) := by decide +kernel
theorem dX6_potential_36 : decode cX6_potential 36 = .ok (.iload 4, 2) := by decide +kernel
theorem dX6_potential_38 : decode cX6_potential 38 = .ok (.iconst 1, 1) := by decide +kernel
theorem dX6_potential_39 : decode cX6_potential 39 = .ok (.if_icmp .le 15, 3) := by decide +kernel
theorem dX6_potential_42 : decode cX6_potential 42 = .ok (.iinc 2 1, 3) := by decide +kernel
theorem dX6_potential_45 : decode cX6_potential 45 = .ok (.iload 4, 2) := by decide +kernel
theorem dX6_potential_47 : decode cX6_potential 47 = .ok (.iconst 2, 1) := by decide +kernel
theorem dX6_potential_48 : decode cX6_potential 48 = .ok (.idiv, 1) := by decide +kernel
theorem dX6_potential_49 : decode cX6_potential 49 = .ok (.istore 4, 2) := by decide +kernel
theorem dX6_potential_51 : decode cX6_potential 51 = .ok (.goto (-15), 3) := by decide +kernel
theorem dX6_potential_54 : decode cX6_potential 54 = .ok (.iinc 3 1, 3) := by decide +kernel
theorem dX6_potential_57 : decode cX6_potential 57 = .ok (.goto (-53), 3) := by decide +kernel
theorem dX6_potential_60 : decode cX6_potential 60 = .ok (.iload_n 2, 1) := by decide +kernel
theorem dX6_potential_61 : decode cX6_potential 61 = .ok (.ireturn, 1) := by decide +kernel
set_option maxRecDepth 20000 in
theorem ggX6_count_X6_isTree : GoodIn wsX6_count wsX6_isTree := goodIn_r _ [13, 14, 35, 36, 37, 38, 39, 40, 41, 42, 43, 44, 45, 46, 47, 48, 49, 50, 51, 52, 53, 54, 55, 56, 57, 58, 59, 60, 61, 62] (by decide +kernel) (by decide +kernel)
set_option maxRecDepth 20000 in
theorem gX6_count_X6_isTree : GoodIn wsX6_count (wsV RX6 154 RX6 yX6_isTree wsX6_isTree) := goodIn_app (goodIn_of _ (by decide +kernel)) ggX6_count_X6_isTree
set_option maxRecDepth 20000 in
theorem ggX6_count_X6_deepest : GoodIn wsX6_count wsX6_deepest := goodIn_r _ [18, 19, 20, 21, 22, 12, 23, 24, 35, 36, 37, 38, 39, 40, 41, 42, 43, 44, 45, 46, 47, 48, 49, 50, 51, 52, 53, 54, 55, 56, 57, 58, 59, 60, 61, 62] (by decide +kernel) (by decide +kernel)
set_option maxRecDepth 20000 in
theorem gX6_count_X6_deepest : GoodIn wsX6_count (wsV RX6 182 RX6 yX6_deepest wsX6_deepest) := goodIn_app (goodIn_of _ (by decide +kernel)) ggX6_count_X6_deepest
set_option maxRecDepth 20000 in
theorem ggX6_count_X6_potential : GoodIn wsX6_count wsX6_potential := goodIn_r _ [28, 19, 29, 30, 31, 12, 32, 33, 34, 35, 36, 37, 38, 39, 40, 41, 42, 43, 44, 45, 46, 47, 48, 49, 50, 51, 52, 53, 54, 55, 56, 57, 58, 59, 60, 61, 62] (by decide +kernel) (by decide +kernel)
set_option maxRecDepth 20000 in
theorem gX6_count_X6_potential : GoodIn wsX6_count (wsV RX6 185 RX6 yX6_potential wsX6_potential) := goodIn_app (goodIn_of _ (by decide +kernel)) ggX6_count_X6_potential
theorem dX6_count_0 : decode cX6_count 0 = .ok (.aload_n 0, 1) := by decide +kernel
theorem dX6_count_1 : decode cX6_count 1 = .ok (.iconst 0, 1) := by decide +kernel
theorem dX6_count_2 : decode cX6_count 2 = .ok (.putfield 77, 3) := by decide +kernel
theorem dX6_count_5 : decode cX6_count 5 = .ok (.aload_n 0, 1) := by decide +kernel
theorem dX6_count_6 : decode cX6_count 6 = .ok (.iload_n 1, 1) := by decide +kernel
theorem dX6_count_7 : decode cX6_count 7 = .ok (.invokevirtual 154, 3) := by decide +kernel
theorem dX6_count_10 : decode cX6_count 10 = .ok (.ifCond .ne 5, 3) := by decide +kernel
theorem dX6_count_13 : decode cX6_count 13 = .ok (.iconst (-1), 1) := by decide +kernel
theorem dX6_count_14 : decode cX6_count 14 = .ok (.ireturn, 1) := by decide +kernel
theorem dX6_count_15 : decode cX6_count 15 = .ok (.iload_n 2, 1) := by decide +kernel
theorem dX6_count_16 : decode cX6_count 16 = .ok (.tableswitch 113 0 8 #[52, 59, 66, 73, 79, 86, 93, 100, 106], 52) := by decide +kernel
theorem dX6_count_68 : decode cX6_count 68 = .ok (.aload_n 0, 1) := by decide +kernel
theorem dX6_count_69 : decode cX6_count 69 = .ok (.getfield 7, 3) := by decide +kernel
theorem dX6_count_72 : decode cX6_count 72 = .ok (.iload_n 1, 1) := by decide +kernel
theorem dX6_count_73 : decode cX6_count 73 = .ok (.iaload, 1) := by decide +kernel
theorem dX6_count_74 : decode cX6_count 74 = .ok (.ireturn, 1) := by decide +kernel
theorem dX6_count_75 : decode cX6_count 75 = .ok (.aload_n 0, 1) := by decide +kernel
theorem dX6_count_76 : decode cX6_count 76 = .ok (.getfield 29, 3) := by decide +kernel
theorem dX6_count_79 : decode cX6_count 79 = .ok (.iload_n 1, 1) := by decide +kernel
theorem dX6_count_80 : decode cX6_count 80 = .ok (.iaload, 1) := by decide +kernel
theorem dX6_count_81 : decode cX6_count 81 = .ok (.ireturn, 1) := by decide +kernel
theorem dX6_count_82 : decode cX6_count 82 = .ok (.aload_n 0, 1) := by decide +kernel
theorem dX6_count_83 : decode cX6_count 83 = .ok (.getfield 13, 3) := by decide +kernel
theorem dX6_count_86 : decode cX6_count 86 = .ok (.iload_n 1, 1) := by decide +kernel
theorem dX6_count_87 : decode cX6_count 87 = .ok (.iaload, 1) := by decide +kernel
theorem dX6_count_88 : decode cX6_count 88 = .ok (.ireturn, 1) := by decide +kernel
theorem dX6_count_89 : decode cX6_count 89 = .ok (.aload_n 0, 1) := by decide +kernel
theorem dX6_count_90 : decode cX6_count 90 = .ok (.iload_n 1, 1) := by decide +kernel
theorem dX6_count_91 : decode cX6_count 91 = .ok (.invokevirtual 182, 3) := by decide +kernel
theorem dX6_count_94 : decode cX6_count 94 = .ok (.ireturn, 1) := by decide +kernel
theorem dX6_count_95 : decode cX6_count 95 = .ok (.aload_n 0, 1) := by decide +kernel
theorem dX6_count_96 : decode cX6_count 96 = .ok (.getfield 32, 3) := by decide +kernel
theorem dX6_count_99 : decode cX6_count 99 = .ok (.iload_n 1, 1) := by decide +kernel
theorem dX6_count_100 : decode cX6_count 100 = .ok (.iaload, 1) := by decide +kernel
theorem dX6_count_101 : decode cX6_count 101 = .ok (.ireturn, 1) := by decide +kernel
theorem dX6_count_102 : decode cX6_count 102 = .ok (.aload_n 0, 1) := by decide +kernel
theorem dX6_count_103 : decode cX6_count 103 = .ok (.getfield 35, 3) := by decide +kernel
theorem dX6_count_106 : decode cX6_count 106 = .ok (.iload_n 1, 1) := by decide +kernel
theorem dX6_count_107 : decode cX6_count 107 = .ok (.iaload, 1) := by decide +kernel
theorem dX6_count_108 : decode cX6_count 108 = .ok (.ireturn, 1) := by decide +kernel
theorem dX6_count_109 : decode cX6_count 109 = .ok (.aload_n 0, 1) := by decide +kernel
theorem dX6_count_110 : decode cX6_count 110 = .ok (.getfield 41, 3) := by decide +kernel
theorem dX6_count_113 : decode cX6_count 113 = .ok (.iload_n 1, 1) := by decide +kernel
theorem dX6_count_114 : decode cX6_count 114 = .ok (.iaload, 1) := by decide +kernel
theorem dX6_count_115 : decode cX6_count 115 = .ok (.ireturn, 1) := by decide +kernel
theorem dX6_count_116 : decode cX6_count 116 = .ok (.aload_n 0, 1) := by decide +kernel
theorem dX6_count_117 : decode cX6_count 117 = .ok (.iload_n 1, 1) := by decide +kernel
theorem dX6_count_118 : decode cX6_count 118 = .ok (.invokevirtual 185, 3) := by decide +kernel
theorem dX6_count_121 : decode cX6_count 121 = .ok (.ireturn, 1) := by decide +kernel
theorem dX6_count_122 : decode cX6_count 122 = .ok (.aload_n 0, 1) := by decide +kernel
theorem dX6_count_123 : decode cX6_count 123 = .ok (.getfield 38, 3) := by decide +kernel
theorem dX6_count_126 : decode cX6_count 126 = .ok (.iload_n 1, 1) := by decide +kernel
theorem dX6_count_127 : decode cX6_count 127 = .ok (.iaload, 1) := by decide +kernel
theorem dX6_count_128 : decode cX6_count 128 = .ok (.ireturn, 1) := by decide +kernel
theorem dX6_count_129 : decode cX6_count 129 = .ok (.iconst (-1), 1) := by decide +kernel
theorem dX6_count_130 : decode cX6_count 130 = .ok (.ireturn, 1) := by decide +kernel
set_option maxRecDepth 20000 in
theorem ggX6_best_X6_isTree : GoodIn wsX6_best wsX6_isTree := goodIn_r _ [13, 14, 19, 20, 21, 22, 23, 24, 25, 26, 27, 28, 29, 30, 31, 32, 33, 34, 35, 36, 37, 38, 39, 40, 41, 42, 43, 44, 45, 46] (by decide +kernel) (by decide +kernel)
set_option maxRecDepth 20000 in
theorem gX6_best_X6_isTree : GoodIn wsX6_best (wsV RX6 154 RX6 yX6_isTree wsX6_isTree) := goodIn_app (goodIn_of _ (by decide +kernel)) ggX6_best_X6_isTree
set_option maxRecDepth 20000 in
theorem ggX6_best_X6_bestOf : GoodIn wsX6_best wsX6_bestOf := goodIn_r _ [18, 3, 7, 8, 19, 20, 21, 22, 23, 24, 25, 26, 27, 28, 29, 30, 31, 32, 33, 34, 35, 36, 37, 38, 39, 40, 41, 42, 43, 44, 45, 46] (by decide +kernel) (by decide +kernel)
set_option maxRecDepth 20000 in
theorem gX6_best_X6_bestOf : GoodIn wsX6_best (wsV RX6 188 RX6 yX6_bestOf wsX6_bestOf) := goodIn_app (goodIn_of _ (by decide +kernel)) ggX6_best_X6_bestOf
theorem dX6_best_0 : decode cX6_best 0 = .ok (.aload_n 0, 1) := by decide +kernel
theorem dX6_best_1 : decode cX6_best 1 = .ok (.iconst 0, 1) := by decide +kernel
theorem dX6_best_2 : decode cX6_best 2 = .ok (.putfield 77, 3) := by decide +kernel
theorem dX6_best_5 : decode cX6_best 5 = .ok (.aload_n 0, 1) := by decide +kernel
theorem dX6_best_6 : decode cX6_best 6 = .ok (.iload_n 1, 1) := by decide +kernel
theorem dX6_best_7 : decode cX6_best 7 = .ok (.invokevirtual 154, 3) := by decide +kernel
theorem dX6_best_10 : decode cX6_best 10 = .ok (.ifCond .eq 12, 3) := by decide +kernel
theorem dX6_best_13 : decode cX6_best 13 = .ok (.iload_n 2, 1) := by decide +kernel
theorem dX6_best_14 : decode cX6_best 14 = .ok (.ifCond .lt 8, 3) := by decide +kernel
theorem dX6_best_17 : decode cX6_best 17 = .ok (.iload_n 2, 1) := by decide +kernel
theorem dX6_best_18 : decode cX6_best 18 = .ok (.iconst 1, 1) := by decide +kernel
theorem dX6_best_19 : decode cX6_best 19 = .ok (.if_icmp .le 5, 3) := by decide +kernel
theorem dX6_best_22 : decode cX6_best 22 = .ok (.iconst (-1), 1) := by decide +kernel
theorem dX6_best_23 : decode cX6_best 23 = .ok (.ireturn, 1) := by decide +kernel
theorem dX6_best_24 : decode cX6_best 24 = .ok (.iconst 0, 1) := by decide +kernel
theorem dX6_best_25 : decode cX6_best 25 = .ok (.istore_n 3, 1) := by decide +kernel
theorem dX6_best_26 : decode cX6_best 26 = .ok (.iconst 0, 1) := by decide +kernel
theorem dX6_best_27 : decode cX6_best 27 = .ok (.istore 4, 2) := by decide +kernel
theorem dX6_best_29 : decode cX6_best 29 = .ok (.iload 4, 2) := by decide +kernel
theorem dX6_best_31 : decode cX6_best 31 = .ok (.bipush 64, 2) := by decide +kernel
theorem dX6_best_33 : decode cX6_best 33 = .ok (.if_icmp .ge 96, 3) := by decide +kernel
theorem dX6_best_36 : decode cX6_best 36 = .ok (.aload_n 0, 1) := by decide +kernel
theorem dX6_best_37 : decode cX6_best 37 = .ok (.getfield 25, 3) := by decide +kernel
theorem dX6_best_40 : decode cX6_best 40 = .ok (.bipush 64, 2) := by decide +kernel
theorem dX6_best_42 : decode cX6_best 42 = .ok (.iload_n 1, 1) := by decide +kernel
theorem dX6_best_43 : decode cX6_best 43 = .ok (.imul, 1) := by decide +kernel
theorem dX6_best_44 : decode cX6_best 44 = .ok (.iload 4, 2) := by decide +kernel
theorem dX6_best_46 : decode cX6_best 46 = .ok (.iadd, 1) := by decide +kernel
theorem dX6_best_47 : decode cX6_best 47 = .ok (.baload, 1) := by decide +kernel
theorem dX6_best_48 : decode cX6_best 48 = .ok (.ifCond .eq 75, 3) := by decide +kernel
theorem dX6_best_51 : decode cX6_best 51 = .ok (.aload_n 0, 1) := by decide +kernel
theorem dX6_best_52 : decode cX6_best 52 = .ok (.getfield 53, 3) := by decide +kernel
theorem dX6_best_55 : decode cX6_best 55 = .ok (.iload_n 3, 1) := by decide +kernel
theorem dX6_best_56 : decode cX6_best 56 = .ok (.iconst 0, 1) := by decide +kernel
theorem dX6_best_57 : decode cX6_best 57 = .ok (.iastore, 1) := by decide +kernel
theorem dX6_best_58 : decode cX6_best 58 = .ok (.bipush 100, 2) := by decide +kernel
theorem dX6_best_60 : decode cX6_best 60 = .ok (.iload_n 1, 1) := by decide +kernel
theorem dX6_best_61 : decode cX6_best 61 = .ok (.imul, 1) := by decide +kernel
theorem dX6_best_62 : decode cX6_best 62 = .ok (.istore 5, 2) := by decide +kernel
theorem dX6_best_64 : decode cX6_best 64 = .ok (.iload 5, 2) := by decide +kernel
theorem dX6_best_66 : decode cX6_best 66 = .ok (.bipush 100, 2) := by decide +kernel
theorem dX6_best_68 : decode cX6_best 68 = .ok (.iload_n 1, 1) := by decide +kernel
theorem dX6_best_69 : decode cX6_best 69 = .ok (.imul, 1) := by decide +kernel
theorem dX6_best_70 : decode cX6_best 70 = .ok (.aload_n 0, 1) := by decide +kernel
theorem dX6_best_71 : decode cX6_best 71 = .ok (.getfield 41, 3) := by decide +kernel
theorem dX6_best_74 : decode cX6_best 74 = .ok (.iload_n 1, 1) := by decide +kernel
theorem dX6_best_75 : decode cX6_best 75 = .ok (.iaload, 1) := by decide +kernel
theorem dX6_best_76 : decode cX6_best 76 = .ok (.iadd, 1) := by decide +kernel
theorem dX6_best_77 : decode cX6_best 77 = .ok (.if_icmp .ge 35, 3) := by decide +kernel
theorem dX6_best_80 : decode cX6_best 80 = .ok (.aload_n 0, 1) := by decide +kernel
theorem dX6_best_81 : decode cX6_best 81 = .ok (.getfield 53, 3) := by decide +kernel
theorem dX6_best_84 : decode cX6_best 84 = .ok (.iload_n 3, 1) := by decide +kernel
theorem dX6_best_85 : decode cX6_best 85 = .ok (.dup2, 1) := by decide +kernel
theorem dX6_best_86 : decode cX6_best 86 = .ok (.iaload, 1) := by decide +kernel
theorem dX6_best_87 : decode cX6_best 87 = .ok (.aload_n 0, 1) := by decide +kernel
theorem dX6_best_88 : decode cX6_best 88 = .ok (.getfield 44, 3) := by decide +kernel
theorem dX6_best_91 : decode cX6_best 91 = .ok (.iload 5, 2) := by decide +kernel
theorem dX6_best_93 : decode cX6_best 93 = .ok (.iaload, 1) := by decide +kernel
theorem dX6_best_94 : decode cX6_best 94 = .ok (.iload 4, 2) := by decide +kernel
theorem dX6_best_96 : decode cX6_best 96 = .ok (.if_icmp .ne 7, 3) := by decide +kernel
theorem dX6_best_99 : decode cX6_best 99 = .ok (.iconst 1, 1) := by decide +kernel
theorem dX6_best_100 : decode cX6_best 100 = .ok (.goto 4, 3) := by decide +kernel
theorem dX6_best_103 : decode cX6_best 103 = .ok (.iconst 0, 1) := by decide +kernel
theorem dX6_best_104 : decode cX6_best 104 = .ok (.iadd, 1) := by decide +kernel
theorem dX6_best_105 : decode cX6_best 105 = .ok (.iastore, 1) := by decide +kernel
theorem dX6_best_106 : decode cX6_best 106 = .ok (.iinc 5 1, 3) := by decide +kernel
theorem dX6_best_109 : decode cX6_best 109 = .ok (.goto (-45), 3) := by decide +kernel
theorem dX6_best_112 : decode cX6_best 112 = .ok (.aload_n 0, 1) := by decide +kernel
theorem dX6_best_113 : decode cX6_best 113 = .ok (.getfield 47, 3) := by decide +kernel
theorem dX6_best_116 : decode cX6_best 116 = .ok (.iload_n 3, 1) := by decide +kernel
theorem dX6_best_117 : decode cX6_best 117 = .ok (.iload 4, 2) := by decide +kernel
theorem dX6_best_119 : decode cX6_best 119 = .ok (.iastore, 1) := by decide +kernel
theorem dX6_best_120 : decode cX6_best 120 = .ok (.iinc 3 1, 3) := by decide +kernel
theorem dX6_best_123 : decode cX6_best 123 = .ok (.iinc 4 1, 3) := by decide +kernel
theorem dX6_best_126 : decode cX6_best 126 = .ok (.goto (-97), 3) := by decide +kernel
theorem dX6_best_129 : decode cX6_best 129 = .ok (.iconst 0, 1) := by decide +kernel
theorem dX6_best_130 : decode cX6_best 130 = .ok (.istore 4, 2) := by decide +kernel
theorem dX6_best_132 : decode cX6_best 132 = .ok (.iload 4, 2) := by decide +kernel
theorem dX6_best_134 : decode cX6_best 134 = .ok (.sipush 4290, 3) := by decide +kernel
theorem dX6_best_137 : decode cX6_best 137 = .ok (.if_icmp .ge 17, 3) := by decide +kernel
theorem dX6_best_140 : decode cX6_best 140 = .ok (.aload_n 0, 1) := by decide +kernel
theorem dX6_best_141 : decode cX6_best 141 = .ok (.getfield 56, 3) := by decide +kernel
theorem dX6_best_144 : decode cX6_best 144 = .ok (.iload 4, 2) := by decide +kernel
theorem dX6_best_146 : decode cX6_best 146 = .ok (.iconst 0, 1) := by decide +kernel
theorem dX6_best_147 : decode cX6_best 147 = .ok (.iastore, 1) := by decide +kernel
theorem dX6_best_148 : decode cX6_best 148 = .ok (.iinc 4 1, 3) := by decide +kernel
theorem dX6_best_151 : decode cX6_best 151 = .ok (.goto (-19), 3) := by decide +kernel
theorem dX6_best_154 : decode cX6_best 154 = .ok (.iconst 1, 1) := by decide +kernel
theorem dX6_best_155 : decode cX6_best 155 = .ok (.istore 4, 2) := by decide +kernel
theorem dX6_best_157 : decode cX6_best 157 = .ok (.iload 4, 2) := by decide +kernel
theorem dX6_best_159 : decode cX6_best 159 = .ok (.iload_n 3, 1) := by decide +kernel
theorem dX6_best_160 : decode cX6_best 160 = .ok (.if_icmp .gt 38, 3) := by decide +kernel
theorem dX6_best_163 : decode cX6_best 163 = .ok (.iconst 0, 1) := by decide +kernel
theorem dX6_best_164 : decode cX6_best 164 = .ok (.istore 5, 2) := by decide +kernel
theorem dX6_best_166 : decode cX6_best 166 = .ok (.iload 5, 2) := by decide +kernel
theorem dX6_best_168 : decode cX6_best 168 = .ok (.iload 4, 2) := by decide +kernel
theorem dX6_best_170 : decode cX6_best 170 = .ok (.iadd, 1) := by decide +kernel
theorem dX6_best_171 : decode cX6_best 171 = .ok (.iload_n 3, 1) := by decide +kernel
theorem dX6_best_172 : decode cX6_best 172 = .ok (.if_icmp .gt 20, 3) := by decide +kernel
theorem dX6_best_175 : decode cX6_best 175 = .ok (.aload_n 0, 1) := by decide +kernel
theorem dX6_best_176 : decode cX6_best 176 = .ok (.iload 5, 2) := by decide +kernel
theorem dX6_best_178 : decode cX6_best 178 = .ok (.iload 5, 2) := by decide +kernel
theorem dX6_best_180 : decode cX6_best 180 = .ok (.iload 4, 2) := by decide +kernel
theorem dX6_best_182 : decode cX6_best 182 = .ok (.iadd, 1) := by decide +kernel
theorem dX6_best_183 : decode cX6_best 183 = .ok (.invokevirtual 188, 3) := by decide +kernel
theorem dX6_best_186 : decode cX6_best 186 = .ok (.iinc 5 1, 3) := by decide +kernel
theorem dX6_best_189 : decode cX6_best 189 = .ok (.goto (-23), 3) := by decide +kernel
theorem dX6_best_192 : decode cX6_best 192 = .ok (.iinc 4 1, 3) := by decide +kernel
theorem dX6_best_195 : decode cX6_best 195 = .ok (.goto (-38), 3) := by decide +kernel
theorem dX6_best_198 : decode cX6_best 198 = .ok (.iload_n 2, 1) := by decide +kernel
theorem dX6_best_199 : decode cX6_best 199 = .ok (.ifCond .ne 12, 3) := by decide +kernel
theorem dX6_best_202 : decode cX6_best 202 = .ok (.aload_n 0, 1) := by decide +kernel
theorem dX6_best_203 : decode cX6_best 203 = .ok (.getfield 56, 3) := by decide +kernel
theorem dX6_best_206 : decode cX6_best 206 = .ok (.iload_n 3, 1) := by decide +kernel
theorem dX6_best_207 : decode cX6_best 207 = .ok (.iaload, 1) := by decide +kernel
theorem dX6_best_208 : decode cX6_best 208 = .ok (.goto 22, 3) := by decide +kernel
theorem dX6_best_211 : decode cX6_best 211 = .ok (.iload_n 3, 1) := by decide +kernel
theorem dX6_best_212 : decode cX6_best 212 = .ok (.ifCond .ne 7, 3) := by decide +kernel
theorem dX6_best_215 : decode cX6_best 215 = .ok (.iconst (-1), 1) := by decide +kernel
theorem dX6_best_216 : decode cX6_best 216 = .ok (.goto 14, 3) := by decide +kernel
theorem dX6_best_219 : decode cX6_best 219 = .ok (.aload_n 0, 1) := by decide +kernel
theorem dX6_best_220 : decode cX6_best 220 = .ok (.getfield 47, 3) := by decide +kernel
theorem dX6_best_223 : decode cX6_best 223 = .ok (.aload_n 0, 1) := by decide +kernel
theorem dX6_best_224 : decode cX6_best 224 = .ok (.getfield 59, 3) := by decide +kernel
theorem dX6_best_227 : decode cX6_best 227 = .ok (.iload_n 3, 1) := by decide +kernel
theorem dX6_best_228 : decode cX6_best 228 = .ok (.iaload, 1) := by decide +kernel
theorem dX6_best_229 : decode cX6_best 229 = .ok (.iaload, 1) := by decide +kernel
theorem dX6_best_230 : decode cX6_best 230 = .ok (.ireturn, 1) := by decide +kernel
theorem dX6_bestOf_0 : decode cX6_bestOf 0 = .ok (.iconst 0, 1) := by decide +kernel
theorem dX6_bestOf_1 : decode cX6_bestOf 1 = .ok (.istore_n 3, 1) := by decide +kernel
theorem dX6_bestOf_2 : decode cX6_bestOf 2 = .ok (.iload_n 1, 1) := by decide +kernel
theorem dX6_bestOf_3 : decode cX6_bestOf 3 = .ok (.istore 4, 2) := by decide +kernel
theorem dX6_bestOf_5 : decode cX6_bestOf 5 = .ok (.iload 4, 2) := by decide +kernel
theorem dX6_bestOf_7 : decode cX6_bestOf 7 = .ok (.iload_n 2, 1) := by decide +kernel
theorem dX6_bestOf_8 : decode cX6_bestOf 8 = .ok (.if_icmp .ge 19, 3) := by decide +kernel
theorem dX6_bestOf_11 : decode cX6_bestOf 11 = .ok (.iload_n 3, 1) := by decide +kernel
theorem dX6_bestOf_12 : decode cX6_bestOf 12 = .ok (.aload_n 0, 1) := by decide +kernel
theorem dX6_bestOf_13 : decode cX6_bestOf 13 = .ok (.getfield 53, 3) := by decide +kernel
theorem dX6_bestOf_16 : decode cX6_bestOf 16 = .ok (.iload 4, 2) := by decide +kernel
theorem dX6_bestOf_18 : decode cX6_bestOf 18 = .ok (.iaload, 1) := by decide +kernel
theorem dX6_bestOf_19 : decode cX6_bestOf 19 = .ok (.iadd, 1) := by decide +kernel
theorem dX6_bestOf_20 : decode cX6_bestOf 20 = .ok (.istore_n 3, 1) := by decide +kernel
theorem dX6_bestOf_21 : decode cX6_bestOf 21 = .ok (.iinc 4 1, 3) := by decide +kernel
theorem dX6_bestOf_24 : decode cX6_bestOf 24 = .ok (.goto (-19), 3) := by decide +kernel
theorem dX6_bestOf_27 : decode cX6_bestOf 27 = .ok (.iconst (-1), 1) := by decide +kernel
theorem dX6_bestOf_28 : decode cX6_bestOf 28 = .ok (.istore 4, 2) := by decide +kernel
theorem dX6_bestOf_30 : decode cX6_bestOf 30 = .ok (.iload_n 1, 1) := by decide +kernel
theorem dX6_bestOf_31 : decode cX6_bestOf 31 = .ok (.istore 5, 2) := by decide +kernel
theorem dX6_bestOf_33 : decode cX6_bestOf 33 = .ok (.iload 5, 2) := by decide +kernel
theorem dX6_bestOf_35 : decode cX6_bestOf 35 = .ok (.iload_n 2, 1) := by decide +kernel
theorem dX6_bestOf_36 : decode cX6_bestOf 36 = .ok (.if_icmp .ge 69, 3) := by decide +kernel
theorem dX6_bestOf_39 : decode cX6_bestOf 39 = .ok (.iload_n 3, 1) := by decide +kernel
theorem dX6_bestOf_40 : decode cX6_bestOf 40 = .ok (.aload_n 0, 1) := by decide +kernel
theorem dX6_bestOf_41 : decode cX6_bestOf 41 = .ok (.getfield 56, 3) := by decide +kernel
theorem dX6_bestOf_44 : decode cX6_bestOf 44 = .ok (.bipush 65, 2) := by decide +kernel
theorem dX6_bestOf_46 : decode cX6_bestOf 46 = .ok (.iload_n 1, 1) := by decide +kernel
theorem dX6_bestOf_47 : decode cX6_bestOf 47 = .ok (.imul, 1) := by decide +kernel
theorem dX6_bestOf_48 : decode cX6_bestOf 48 = .ok (.iload 5, 2) := by decide +kernel
theorem dX6_bestOf_50 : decode cX6_bestOf 50 = .ok (.iadd, 1) := by decide +kernel
theorem dX6_bestOf_51 : decode cX6_bestOf 51 = .ok (.iaload, 1) := by decide +kernel
theorem dX6_bestOf_52 : decode cX6_bestOf 52 = .ok (.iadd, 1) := by decide +kernel
theorem dX6_bestOf_53 : decode cX6_bestOf 53 = .ok (.aload_n 0, 1) := by decide +kernel
theorem dX6_bestOf_54 : decode cX6_bestOf 54 = .ok (.getfield 56, 3) := by decide +kernel
theorem dX6_bestOf_57 : decode cX6_bestOf 57 = .ok (.bipush 65, 2) := by decide +kernel
theorem dX6_bestOf_59 : decode cX6_bestOf 59 = .ok (.iload 5, 2) := by decide +kernel
theorem dX6_bestOf_61 : decode cX6_bestOf 61 = .ok (.iconst 1, 1) := by decide +kernel
theorem dX6_bestOf_62 : decode cX6_bestOf 62 = .ok (.iadd, 1) := by decide +kernel
theorem dX6_bestOf_63 : decode cX6_bestOf 63 = .ok (.imul, 1) := by decide +kernel
theorem dX6_bestOf_64 : decode cX6_bestOf 64 = .ok (.iload_n 2, 1) := by decide +kernel
theorem dX6_bestOf_65 : decode cX6_bestOf 65 = .ok (.iadd, 1) := by decide +kernel
theorem dX6_bestOf_66 : decode cX6_bestOf 66 = .ok (.iaload, 1) := by decide +kernel
theorem dX6_bestOf_67 : decode cX6_bestOf 67 = .ok (.iadd, 1) := by decide +kernel
theorem dX6_bestOf_68 : decode cX6_bestOf 68 = .ok (.istore 6, 2) := by decide +kernel
theorem dX6_bestOf_70 : decode cX6_bestOf 70 = .ok (.iload 4, 2) := by decide +kernel
theorem dX6_bestOf_72 : decode cX6_bestOf 72 = .ok (.ifCond .lt 10, 3) := by decide +kernel
theorem dX6_bestOf_75 : decode cX6_bestOf 75 = .ok (.iload 6, 2) := by decide +kernel
theorem dX6_bestOf_77 : decode cX6_bestOf 77 = .ok (.iload 4, 2) := by decide +kernel
theorem dX6_bestOf_79 : decode cX6_bestOf 79 = .ok (.if_icmp .ge 20, 3) := by decide +kernel
theorem dX6_bestOf_82 : decode cX6_bestOf 82 = .ok (.iload 6, 2) := by decide +kernel
theorem dX6_bestOf_84 : decode cX6_bestOf 84 = .ok (.istore 4, 2) := by decide +kernel
theorem dX6_bestOf_86 : decode cX6_bestOf 86 = .ok (.aload_n 0, 1) := by decide +kernel
theorem dX6_bestOf_87 : decode cX6_bestOf 87 = .ok (.getfield 59, 3) := by decide +kernel
theorem dX6_bestOf_90 : decode cX6_bestOf 90 = .ok (.bipush 65, 2) := by decide +kernel
theorem dX6_bestOf_92 : decode cX6_bestOf 92 = .ok (.iload_n 1, 1) := by decide +kernel
theorem dX6_bestOf_93 : decode cX6_bestOf 93 = .ok (.imul, 1) := by decide +kernel
theorem dX6_bestOf_94 : decode cX6_bestOf 94 = .ok (.iload_n 2, 1) := by decide +kernel
theorem dX6_bestOf_95 : decode cX6_bestOf 95 = .ok (.iadd, 1) := by decide +kernel
theorem dX6_bestOf_96 : decode cX6_bestOf 96 = .ok (.iload 5, 2) := by decide +kernel
theorem dX6_bestOf_98 : decode cX6_bestOf 98 = .ok (.iastore, 1) := by decide +kernel
theorem dX6_bestOf_99 : decode cX6_bestOf 99 = .ok (.iinc 5 1, 3) := by decide +kernel
theorem dX6_bestOf_102 : decode cX6_bestOf 102 = .ok (.goto (-69), 3) := by decide +kernel
theorem dX6_bestOf_105 : decode cX6_bestOf 105 = .ok (.aload_n 0, 1) := by decide +kernel
theorem dX6_bestOf_106 : decode cX6_bestOf 106 = .ok (.getfield 56, 3) := by decide +kernel
theorem dX6_bestOf_109 : decode cX6_bestOf 109 = .ok (.bipush 65, 2) := by decide +kernel
theorem dX6_bestOf_111 : decode cX6_bestOf 111 = .ok (.iload_n 1, 1) := by decide +kernel
theorem dX6_bestOf_112 : decode cX6_bestOf 112 = .ok (.imul, 1) := by decide +kernel
theorem dX6_bestOf_113 : decode cX6_bestOf 113 = .ok (.iload_n 2, 1) := by decide +kernel
theorem dX6_bestOf_114 : decode cX6_bestOf 114 = .ok (.iadd, 1) := by decide +kernel
theorem dX6_bestOf_115 : decode cX6_bestOf 115 = .ok (.iload 4, 2) := by decide +kernel
theorem dX6_bestOf_117 : decode cX6_bestOf 117 = .ok (.iastore, 1) := by decide +kernel
theorem dX6_bestOf_118 : decode cX6_bestOf 118 = .ok (.return_, 1) := by decide +kernel
set_option maxRecDepth 20000 in
theorem ggX6_interleave_X6_isTree : GoodIn wsX6_interleave wsX6_isTree := goodIn_r _ [8, 9, 10, 11, 12, 13, 14, 15, 16, 17, 18, 19, 20, 21, 22, 23, 24, 25, 26, 27, 28, 29, 30, 31, 32, 33, 34, 35, 36, 37] (by decide +kernel) (by decide +kernel)
set_option maxRecDepth 20000 in
theorem gX6_interleave_X6_isTree : GoodIn wsX6_interleave (wsV RX6 154 RX6 yX6_isTree wsX6_isTree) := goodIn_app (goodIn_of _ (by decide +kernel)) ggX6_interleave_X6_isTree
theorem dX6_interleave_0 : decode cX6_interleave 0 = .ok (.aload_n 0, 1) := by decide +kernel
theorem dX6_interleave_1 : decode cX6_interleave 1 = .ok (.iconst 0, 1) := by decide +kernel
theorem dX6_interleave_2 : decode cX6_interleave 2 = .ok (.putfield 77, 3) := by decide +kernel
theorem dX6_interleave_5 : decode cX6_interleave 5 = .ok (.aload_n 0, 1) := by decide +kernel
theorem dX6_interleave_6 : decode cX6_interleave 6 = .ok (.iload_n 1, 1) := by decide +kernel
theorem dX6_interleave_7 : decode cX6_interleave 7 = .ok (.invokevirtual 154, 3) := by decide +kernel
theorem dX6_interleave_10 : decode cX6_interleave 10 = .ok (.ifCond .ne 5, 3) := by decide +kernel
theorem dX6_interleave_13 : decode cX6_interleave 13 = .ok (.iconst (-1), 1) := by decide +kernel
theorem dX6_interleave_14 : decode cX6_interleave 14 = .ok (.ireturn, 1) := by decide +kernel
theorem dX6_interleave_15 : decode cX6_interleave 15 = .ok (.iconst 0, 1) := by decide +kernel
theorem dX6_interleave_16 : decode cX6_interleave 16 = .ok (.istore_n 2, 1) := by decide +kernel
theorem dX6_interleave_17 : decode cX6_interleave 17 = .ok (.iconst 2, 1) := by decide +kernel
theorem dX6_interleave_18 : decode cX6_interleave 18 = .ok (.istore_n 3, 1) := by decide +kernel
theorem dX6_interleave_19 : decode cX6_interleave 19 = .ok (.iload_n 3, 1) := by decide +kernel
theorem dX6_interleave_20 : decode cX6_interleave 20 = .ok (.bipush 64, 2) := by decide +kernel
theorem dX6_interleave_22 : decode cX6_interleave 22 = .ok (.if_icmp .gt 133, 3) := by decide +kernel
theorem dX6_interleave_25 : decode cX6_interleave 25 = .ok (.iconst 0, 1) := by decide +kernel
theorem dX6_interleave_26 : decode cX6_interleave 26 = .ok (.istore 4, 2) := by decide +kernel
theorem dX6_interleave_28 : decode cX6_interleave 28 = .ok (.iload 4, 2) := by decide +kernel
theorem dX6_interleave_30 : decode cX6_interleave 30 = .ok (.bipush 64, 2) := by decide +kernel
theorem dX6_interleave_32 : decode cX6_interleave 32 = .ok (.if_icmp .ge 116, 3) := by decide +kernel
theorem dX6_interleave_35 : decode cX6_interleave 35 = .ok (.iconst (-1), 1) := by decide +kernel
theorem dX6_interleave_36 : decode cX6_interleave 36 = .ok (.istore 5, 2) := by decide +kernel
theorem dX6_interleave_38 : decode cX6_interleave 38 = .ok (.bipush 100, 2) := by decide +kernel
theorem dX6_interleave_40 : decode cX6_interleave 40 = .ok (.iload_n 1, 1) := by decide +kernel
theorem dX6_interleave_41 : decode cX6_interleave 41 = .ok (.imul, 1) := by decide +kernel
theorem dX6_interleave_42 : decode cX6_interleave 42 = .ok (.istore 6, 2) := by decide +kernel
theorem dX6_interleave_44 : decode cX6_interleave 44 = .ok (.iload 6, 2) := by decide +kernel
theorem dX6_interleave_46 : decode cX6_interleave 46 = .ok (.bipush 100, 2) := by decide +kernel
theorem dX6_interleave_48 : decode cX6_interleave 48 = .ok (.iload_n 1, 1) := by decide +kernel
theorem dX6_interleave_49 : decode cX6_interleave 49 = .ok (.imul, 1) := by decide +kernel
theorem dX6_interleave_50 : decode cX6_interleave 50 = .ok (.aload_n 0, 1) := by decide +kernel
theorem dX6_interleave_51 : decode cX6_interleave 51 = .ok (.getfield 41, 3) := by decide +kernel
theorem dX6_interleave_54 : decode cX6_interleave 54 = .ok (.iload_n 1, 1) := by decide +kernel
theorem dX6_interleave_55 : decode cX6_interleave 55 = .ok (.iaload, 1) := by decide +kernel
theorem dX6_interleave_56 : decode cX6_interleave 56 = .ok (.iadd, 1) := by decide +kernel
theorem dX6_interleave_57 : decode cX6_interleave 57 = .ok (.if_icmp .ge 82, 3) := by decide +kernel
theorem dX6_interleave_60 : decode cX6_interleave 60 = .ok (.aload_n 0, 1) := by decide +kernel
theorem dX6_interleave_61 : decode cX6_interleave 61 = .ok (.getfield 44, 3) := by decide +kernel
theorem dX6_interleave_64 : decode cX6_interleave 64 = .ok (.iload 6, 2) := by decide +kernel
theorem dX6_interleave_66 : decode cX6_interleave 66 = .ok (.iaload, 1) := by decide +kernel
theorem dX6_interleave_67 : decode cX6_interleave 67 = .ok (.iload 4, 2) := by decide +kernel
theorem dX6_interleave_69 : decode cX6_interleave 69 = .ok (.if_icmp .lt 64, 3) := by decide +kernel
theorem dX6_interleave_72 : decode cX6_interleave 72 = .ok (.aload_n 0, 1) := by decide +kernel
theorem dX6_interleave_73 : decode cX6_interleave 73 = .ok (.getfield 44, 3) := by decide +kernel
theorem dX6_interleave_76 : decode cX6_interleave 76 = .ok (.iload 6, 2) := by decide +kernel
theorem dX6_interleave_78 : decode cX6_interleave 78 = .ok (.iaload, 1) := by decide +kernel
theorem dX6_interleave_79 : decode cX6_interleave 79 = .ok (.iload 4, 2) := by decide +kernel
theorem dX6_interleave_81 : decode cX6_interleave 81 = .ok (.iload_n 3, 1) := by decide +kernel
theorem dX6_interleave_82 : decode cX6_interleave 82 = .ok (.iadd, 1) := by decide +kernel
theorem dX6_interleave_83 : decode cX6_interleave 83 = .ok (.if_icmp .ge 50, 3) := by decide +kernel
theorem dX6_interleave_86 : decode cX6_interleave 86 = .ok (.aload_n 0, 1) := by decide +kernel
theorem dX6_interleave_87 : decode cX6_interleave 87 = .ok (.getfield 44, 3) := by decide +kernel
theorem dX6_interleave_90 : decode cX6_interleave 90 = .ok (.iload 6, 2) := by decide +kernel
theorem dX6_interleave_92 : decode cX6_interleave 92 = .ok (.iaload, 1) := by decide +kernel
theorem dX6_interleave_93 : decode cX6_interleave 93 = .ok (.iload 4, 2) := by decide +kernel
theorem dX6_interleave_95 : decode cX6_interleave 95 = .ok (.iload_n 3, 1) := by decide +kernel
theorem dX6_interleave_96 : decode cX6_interleave 96 = .ok (.iconst 2, 1) := by decide +kernel
theorem dX6_interleave_97 : decode cX6_interleave 97 = .ok (.idiv, 1) := by decide +kernel
theorem dX6_interleave_98 : decode cX6_interleave 98 = .ok (.iadd, 1) := by decide +kernel
theorem dX6_interleave_99 : decode cX6_interleave 99 = .ok (.if_icmp .ge 7, 3) := by decide +kernel
theorem dX6_interleave_102 : decode cX6_interleave 102 = .ok (.iconst 0, 1) := by decide +kernel
theorem dX6_interleave_103 : decode cX6_interleave 103 = .ok (.goto 4, 3) := by decide +kernel
theorem dX6_interleave_106 : decode cX6_interleave 106 = .ok (.iconst 1, 1) := by decide +kernel
theorem dX6_interleave_107 : decode cX6_interleave 107 = .ok (.istore 7, 2) := by decide +kernel
theorem dX6_interleave_109 : decode cX6_interleave 109 = .ok (.iload_n 2, 1) := by decide +kernel
theorem dX6_interleave_110 : decode cX6_interleave 110 = .ok (.iload 5, 2) := by decide +kernel
theorem dX6_interleave_112 : decode cX6_interleave 112 = .ok (.ifCond .lt 14, 3) := by decide +kernel
theorem dX6_interleave_115 : decode cX6_interleave 115 = .ok (.iload 5, 2) := by decide +kernel
theorem dX6_interleave_117 : decode cX6_interleave 117 = .ok (.iload 7, 2) := by decide +kernel
theorem dX6_interleave_119 : decode cX6_interleave 119 = .ok (.if_icmp .eq 7, 3) := by decide +kernel
theorem dX6_interleave_122 : decode cX6_interleave 122 = .ok (.iconst 1, 1) := by decide +kernel
theorem dX6_interleave_123 : decode cX6_interleave 123 = .ok (.goto 4, 3) := by decide +kernel
theorem dX6_interleave_126 : decode cX6_interleave 126 = .ok (.iconst 0, 1) := by decide +kernel
theorem dX6_interleave_127 : decode cX6_interleave 127 = .ok (.iadd, 1) := by decide +kernel
theorem dX6_interleave_128 : decode cX6_interleave 128 = .ok (.istore_n 2, 1) := by decide +kernel
theorem dX6_interleave_129 : decode cX6_interleave 129 = .ok (.iload 7, 2) := by decide +kernel
theorem dX6_interleave_131 : decode cX6_interleave 131 = .ok (.istore 5, 2) := by decide +kernel
theorem dX6_interleave_133 : decode cX6_interleave 133 = .ok (.iinc 6 1, 3) := by decide +kernel
theorem dX6_interleave_136 : decode cX6_interleave 136 = .ok (.goto (-92), 3) := by decide +kernel
theorem dX6_interleave_139 : decode cX6_interleave 139 = .ok (.iload 4, 2) := by decide +kernel
theorem dX6_interleave_141 : decode cX6_interleave 141 = .ok (.iload_n 3, 1) := by decide +kernel
theorem dX6_interleave_142 : decode cX6_interleave 142 = .ok (.iadd, 1) := by decide +kernel
theorem dX6_interleave_143 : decode cX6_interleave 143 = .ok (.istore 4, 2) := by decide +kernel
theorem dX6_interleave_145 : decode cX6_interleave 145 = .ok (.goto (-117), 3) := by decide +kernel
theorem dX6_interleave_148 : decode cX6_interleave 148 = .ok (.iconst 2, 1) := by decide +kernel
theorem dX6_interleave_149 : decode cX6_interleave 149 = .ok (.iload_n 3, 1) := by decide +kernel
theorem dX6_interleave_150 : decode cX6_interleave 150 = .ok (.imul, 1) := by decide +kernel
theorem dX6_interleave_151 : decode cX6_interleave 151 = .ok (.istore_n 3, 1) := by decide +kernel
theorem dX6_interleave_152 : decode cX6_interleave 152 = .ok (.goto (-133), 3) := by decide +kernel
theorem dX6_interleave_155 : decode cX6_interleave 155 = .ok (.iload_n 2, 1) := by decide +kernel
theorem dX6_interleave_156 : decode cX6_interleave 156 = .ok (.ireturn, 1) := by decide +kernel
theorem dX6_touches_0 : decode cX6_touches 0 = .ok (.iconst 0, 1) := by decide +kernel
theorem dX6_touches_1 : decode cX6_touches 1 = .ok (.istore_n 3, 1) := by decide +kernel
theorem dX6_touches_2 : decode cX6_touches 2 = .ok (.aload_n 0, 1) := by decide +kernel
theorem dX6_touches_3 : decode cX6_touches 3 = .ok (.getfield 62, 3) := by decide +kernel
theorem dX6_touches_6 : decode cX6_touches 6 = .ok (.iload_n 1, 1) := by decide +kernel
theorem dX6_touches_7 : decode cX6_touches 7 = .ok (.iaload, 1) := by decide +kernel
theorem dX6_touches_8 : decode cX6_touches 8 = .ok (.istore 4, 2) := by decide +kernel
theorem dX6_touches_10 : decode cX6_touches 10 = .ok (.iload_n 1, 1) := by decide +kernel
theorem dX6_touches_11 : decode cX6_touches 11 = .ok (.iload_n 2, 1) := by decide +kernel
theorem dX6_touches_12 : decode cX6_touches 12 = .ok (.iadd, 1) := by decide +kernel
theorem dX6_touches_13 : decode cX6_touches 13 = .ok (.istore 5, 2) := by decide +kernel
theorem dX6_touches_15 : decode cX6_touches 15 = .ok (.iload 5, 2) := by decide +kernel
theorem dX6_touches_17 : decode cX6_touches 17 = .ok (.ifCond .lt 51, 3) := by decide +kernel
theorem dX6_touches_20 : decode cX6_touches 20 = .ok (.iload 5, 2) := by decide +kernel
theorem dX6_touches_22 : decode cX6_touches 22 = .ok (.bipush 64, 2) := by decide +kernel
theorem dX6_touches_24 : decode cX6_touches 24 = .ok (.if_icmp .ge 44, 3) := by decide +kernel
theorem dX6_touches_27 : decode cX6_touches 27 = .ok (.aload_n 0, 1) := by decide +kernel
theorem dX6_touches_28 : decode cX6_touches 28 = .ok (.getfield 62, 3) := by decide +kernel
theorem dX6_touches_31 : decode cX6_touches 31 = .ok (.iload 5, 2) := by decide +kernel
theorem dX6_touches_33 : decode cX6_touches 33 = .ok (.iaload, 1) := by decide +kernel
theorem dX6_touches_34 : decode cX6_touches 34 = .ok (.iload 4, 2) := by decide +kernel
theorem dX6_touches_36 : decode cX6_touches 36 = .ok (.if_icmp .le 23, 3) := by decide +kernel
theorem dX6_touches_39 : decode cX6_touches 39 = .ok (.aload_n 0, 1) := by decide +kernel
theorem dX6_touches_40 : decode cX6_touches 40 = .ok (.getfield 62, 3) := by decide +kernel
theorem dX6_touches_43 : decode cX6_touches 43 = .ok (.iload 5, 2) := by decide +kernel
theorem dX6_touches_45 : decode cX6_touches 45 = .ok (.iaload, 1) := by decide +kernel
theorem dX6_touches_46 : decode cX6_touches 46 = .ok (.istore 4, 2) := by decide +kernel
theorem dX6_touches_48 : decode cX6_touches 48 = .ok (.aload_n 0, 1) := by decide +kernel
theorem dX6_touches_49 : decode cX6_touches 49 = .ok (.getfield 65, 3) := by decide +kernel
theorem dX6_touches_52 : decode cX6_touches 52 = .ok (.iload 5, 2) := by decide +kernel
theorem dX6_touches_54 : decode cX6_touches 54 = .ok (.iconst 1, 1) := by decide +kernel
theorem dX6_touches_55 : decode cX6_touches 55 = .ok (.bastore, 1) := by decide +kernel
theorem dX6_touches_56 : decode cX6_touches 56 = .ok (.iinc 3 1, 3) := by decide +kernel
theorem dX6_touches_59 : decode cX6_touches 59 = .ok (.iload 5, 2) := by decide +kernel
theorem dX6_touches_61 : decode cX6_touches 61 = .ok (.iload_n 2, 1) := by decide +kernel
theorem dX6_touches_62 : decode cX6_touches 62 = .ok (.iadd, 1) := by decide +kernel
theorem dX6_touches_63 : decode cX6_touches 63 = .ok (.istore 5, 2) := by decide +kernel
theorem dX6_touches_65 : decode cX6_touches 65 = .ok (.goto (-50), 3) := by decide +kernel
theorem dX6_touches_68 : decode cX6_touches 68 = .ok (.iload_n 3, 1) := by decide +kernel
theorem dX6_touches_69 : decode cX6_touches 69 = .ok (.ireturn, 1) := by decide +kernel
set_option maxRecDepth 20000 in
theorem ggX6_sweep_X6_isTree : GoodIn wsX6_sweep wsX6_isTree := goodIn_r _ [10, 11, 16, 17, 18, 19, 20, 21, 22, 23, 24, 25, 26, 27, 28, 29, 30, 31, 32, 33, 34, 35, 36, 37, 38, 39, 40, 41, 42, 43] (by decide +kernel) (by decide +kernel)
set_option maxRecDepth 20000 in
theorem gX6_sweep_X6_isTree : GoodIn wsX6_sweep (wsV RX6 154 RX6 yX6_isTree wsX6_isTree) := goodIn_app (goodIn_of _ (by decide +kernel)) ggX6_sweep_X6_isTree
set_option maxRecDepth 20000 in
theorem ggX6_sweep_X6_touches : GoodIn wsX6_sweep wsX6_touches := goodIn_r _ [15, 2, 5, 16, 17, 18, 19, 20, 21, 22, 23, 24, 25, 26, 27, 28, 29, 30, 31, 32, 33, 34, 35, 36, 37, 38, 39, 40, 41, 42, 43] (by decide +kernel) (by decide +kernel)
set_option maxRecDepth 20000 in
theorem gX6_sweep_X6_touches : GoodIn wsX6_sweep (wsV RX6 191 RX6 yX6_touches wsX6_touches) := goodIn_app (goodIn_of _ (by decide +kernel)) ggX6_sweep_X6_touches
theorem dX6_sweep_0 : decode cX6_sweep 0 = .ok (.aload_n 0, 1) := by decide +kernel
theorem dX6_sweep_1 : decode cX6_sweep 1 = .ok (.iconst 0, 1) := by decide +kernel
theorem dX6_sweep_2 : decode cX6_sweep 2 = .ok (.putfield 77, 3) := by decide +kernel
theorem dX6_sweep_5 : decode cX6_sweep 5 = .ok (.aload_n 0, 1) := by decide +kernel
theorem dX6_sweep_6 : decode cX6_sweep 6 = .ok (.iload_n 1, 1) := by decide +kernel
theorem dX6_sweep_7 : decode cX6_sweep 7 = .ok (.invokevirtual 154, 3) := by decide +kernel
theorem dX6_sweep_10 : decode cX6_sweep 10 = .ok (.ifCond .ne 5, 3) := by decide +kernel
theorem dX6_sweep_13 : decode cX6_sweep 13 = .ok (.iconst (-1), 1) := by decide +kernel
