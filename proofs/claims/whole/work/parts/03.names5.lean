theorem dX6_sweep_14 : decode cX6_sweep 14 = .ok (.ireturn, 1) := by decide +kernel
theorem dX6_sweep_15 : decode cX6_sweep 15 = .ok (.iconst 0, 1) := by decide +kernel
theorem dX6_sweep_16 : decode cX6_sweep 16 = .ok (.istore_n 2, 1) := by decide +kernel
theorem dX6_sweep_17 : decode cX6_sweep 17 = .ok (.iload_n 2, 1) := by decide +kernel
theorem dX6_sweep_18 : decode cX6_sweep 18 = .ok (.bipush 64, 2) := by decide +kernel
theorem dX6_sweep_20 : decode cX6_sweep 20 = .ok (.if_icmp .ge 16, 3) := by decide +kernel
theorem dX6_sweep_23 : decode cX6_sweep 23 = .ok (.aload_n 0, 1) := by decide +kernel
theorem dX6_sweep_24 : decode cX6_sweep 24 = .ok (.getfield 62, 3) := by decide +kernel
theorem dX6_sweep_27 : decode cX6_sweep 27 = .ok (.iload_n 2, 1) := by decide +kernel
theorem dX6_sweep_28 : decode cX6_sweep 28 = .ok (.iconst 0, 1) := by decide +kernel
theorem dX6_sweep_29 : decode cX6_sweep 29 = .ok (.iastore, 1) := by decide +kernel
theorem dX6_sweep_30 : decode cX6_sweep 30 = .ok (.iinc 2 1, 3) := by decide +kernel
theorem dX6_sweep_33 : decode cX6_sweep 33 = .ok (.goto (-16), 3) := by decide +kernel
theorem dX6_sweep_36 : decode cX6_sweep 36 = .ok (.iconst 0, 1) := by decide +kernel
theorem dX6_sweep_37 : decode cX6_sweep 37 = .ok (.istore_n 2, 1) := by decide +kernel
theorem dX6_sweep_38 : decode cX6_sweep 38 = .ok (.iconst 0, 1) := by decide +kernel
theorem dX6_sweep_39 : decode cX6_sweep 39 = .ok (.istore_n 3, 1) := by decide +kernel
theorem dX6_sweep_40 : decode cX6_sweep 40 = .ok (.iload_n 3, 1) := by decide +kernel
theorem dX6_sweep_41 : decode cX6_sweep 41 = .ok (.aload_n 0, 1) := by decide +kernel
theorem dX6_sweep_42 : decode cX6_sweep 42 = .ok (.getfield 41, 3) := by decide +kernel
theorem dX6_sweep_45 : decode cX6_sweep 45 = .ok (.iload_n 1, 1) := by decide +kernel
theorem dX6_sweep_46 : decode cX6_sweep 46 = .ok (.iaload, 1) := by decide +kernel
theorem dX6_sweep_47 : decode cX6_sweep 47 = .ok (.if_icmp .ge 123, 3) := by decide +kernel
theorem dX6_sweep_50 : decode cX6_sweep 50 = .ok (.aload_n 0, 1) := by decide +kernel
theorem dX6_sweep_51 : decode cX6_sweep 51 = .ok (.getfield 44, 3) := by decide +kernel
theorem dX6_sweep_54 : decode cX6_sweep 54 = .ok (.bipush 100, 2) := by decide +kernel
theorem dX6_sweep_56 : decode cX6_sweep 56 = .ok (.iload_n 1, 1) := by decide +kernel
theorem dX6_sweep_57 : decode cX6_sweep 57 = .ok (.imul, 1) := by decide +kernel
theorem dX6_sweep_58 : decode cX6_sweep 58 = .ok (.iload_n 3, 1) := by decide +kernel
theorem dX6_sweep_59 : decode cX6_sweep 59 = .ok (.iadd, 1) := by decide +kernel
theorem dX6_sweep_60 : decode cX6_sweep 60 = .ok (.iaload, 1) := by decide +kernel
theorem dX6_sweep_61 : decode cX6_sweep 61 = .ok (.istore 4, 2) := by decide +kernel
theorem dX6_sweep_63 : decode cX6_sweep 63 = .ok (.iconst 0, 1) := by decide +kernel
theorem dX6_sweep_64 : decode cX6_sweep 64 = .ok (.istore 5, 2) := by decide +kernel
theorem dX6_sweep_66 : decode cX6_sweep 66 = .ok (.iload 5, 2) := by decide +kernel
theorem dX6_sweep_68 : decode cX6_sweep 68 = .ok (.bipush 64, 2) := by decide +kernel
theorem dX6_sweep_70 : decode cX6_sweep 70 = .ok (.if_icmp .ge 28, 3) := by decide +kernel
theorem dX6_sweep_73 : decode cX6_sweep 73 = .ok (.aload_n 0, 1) := by decide +kernel
theorem dX6_sweep_74 : decode cX6_sweep 74 = .ok (.getfield 65, 3) := by decide +kernel
theorem dX6_sweep_77 : decode cX6_sweep 77 = .ok (.iload 5, 2) := by decide +kernel
theorem dX6_sweep_79 : decode cX6_sweep 79 = .ok (.iload 5, 2) := by decide +kernel
theorem dX6_sweep_81 : decode cX6_sweep 81 = .ok (.iload 4, 2) := by decide +kernel
theorem dX6_sweep_83 : decode cX6_sweep 83 = .ok (.if_icmp .ne 7, 3) := by decide +kernel
theorem dX6_sweep_86 : decode cX6_sweep 86 = .ok (.iconst 1, 1) := by decide +kernel
theorem dX6_sweep_87 : decode cX6_sweep 87 = .ok (.goto 4, 3) := by decide +kernel
theorem dX6_sweep_90 : decode cX6_sweep 90 = .ok (.iconst 0, 1) := by decide +kernel
theorem dX6_sweep_91 : decode cX6_sweep 91 = .ok (.bastore, 1) := by decide +kernel
theorem dX6_sweep_92 : decode cX6_sweep 92 = .ok (.iinc 5 1, 3) := by decide +kernel
theorem dX6_sweep_95 : decode cX6_sweep 95 = .ok (.goto (-29), 3) := by decide +kernel
theorem dX6_sweep_98 : decode cX6_sweep 98 = .ok (.iload_n 2, 1) := by decide +kernel
theorem dX6_sweep_99 : decode cX6_sweep 99 = .ok (.iconst 1, 1) := by decide +kernel
theorem dX6_sweep_100 : decode cX6_sweep 100 = .ok (.aload_n 0, 1) := by decide +kernel
theorem dX6_sweep_101 : decode cX6_sweep 101 = .ok (.iload 4, 2) := by decide +kernel
theorem dX6_sweep_103 : decode cX6_sweep 103 = .ok (.iconst (-1), 1) := by decide +kernel
theorem dX6_sweep_104 : decode cX6_sweep 104 = .ok (.invokevirtual 191, 3) := by decide +kernel
theorem dX6_sweep_107 : decode cX6_sweep 107 = .ok (.iadd, 1) := by decide +kernel
theorem dX6_sweep_108 : decode cX6_sweep 108 = .ok (.aload_n 0, 1) := by decide +kernel
theorem dX6_sweep_109 : decode cX6_sweep 109 = .ok (.iload 4, 2) := by decide +kernel
theorem dX6_sweep_111 : decode cX6_sweep 111 = .ok (.iconst 1, 1) := by decide +kernel
theorem dX6_sweep_112 : decode cX6_sweep 112 = .ok (.invokevirtual 191, 3) := by decide +kernel
theorem dX6_sweep_115 : decode cX6_sweep 115 = .ok (.iadd, 1) := by decide +kernel
theorem dX6_sweep_116 : decode cX6_sweep 116 = .ok (.iadd, 1) := by decide +kernel
theorem dX6_sweep_117 : decode cX6_sweep 117 = .ok (.istore_n 2, 1) := by decide +kernel
theorem dX6_sweep_118 : decode cX6_sweep 118 = .ok (.iconst 0, 1) := by decide +kernel
theorem dX6_sweep_119 : decode cX6_sweep 119 = .ok (.istore 5, 2) := by decide +kernel
theorem dX6_sweep_121 : decode cX6_sweep 121 = .ok (.iload 5, 2) := by decide +kernel
theorem dX6_sweep_123 : decode cX6_sweep 123 = .ok (.bipush 64, 2) := by decide +kernel
theorem dX6_sweep_125 : decode cX6_sweep 125 = .ok (.if_icmp .ge 39, 3) := by decide +kernel
theorem dX6_sweep_128 : decode cX6_sweep 128 = .ok (.aload_n 0, 1) := by decide +kernel
theorem dX6_sweep_129 : decode cX6_sweep 129 = .ok (.getfield 62, 3) := by decide +kernel
theorem dX6_sweep_132 : decode cX6_sweep 132 = .ok (.iload 5, 2) := by decide +kernel
theorem dX6_sweep_134 : decode cX6_sweep 134 = .ok (.aload_n 0, 1) := by decide +kernel
theorem dX6_sweep_135 : decode cX6_sweep 135 = .ok (.getfield 65, 3) := by decide +kernel
theorem dX6_sweep_138 : decode cX6_sweep 138 = .ok (.iload 5, 2) := by decide +kernel
theorem dX6_sweep_140 : decode cX6_sweep 140 = .ok (.baload, 1) := by decide +kernel
theorem dX6_sweep_141 : decode cX6_sweep 141 = .ok (.ifCond .eq 9, 3) := by decide +kernel
theorem dX6_sweep_144 : decode cX6_sweep 144 = .ok (.iload_n 3, 1) := by decide +kernel
theorem dX6_sweep_145 : decode cX6_sweep 145 = .ok (.iconst 1, 1) := by decide +kernel
theorem dX6_sweep_146 : decode cX6_sweep 146 = .ok (.iadd, 1) := by decide +kernel
theorem dX6_sweep_147 : decode cX6_sweep 147 = .ok (.goto 10, 3) := by decide +kernel
theorem dX6_sweep_150 : decode cX6_sweep 150 = .ok (.aload_n 0, 1) := by decide +kernel
theorem dX6_sweep_151 : decode cX6_sweep 151 = .ok (.getfield 62, 3) := by decide +kernel
theorem dX6_sweep_154 : decode cX6_sweep 154 = .ok (.iload 5, 2) := by decide +kernel
theorem dX6_sweep_156 : decode cX6_sweep 156 = .ok (.iaload, 1) := by decide +kernel
theorem dX6_sweep_157 : decode cX6_sweep 157 = .ok (.iastore, 1) := by decide +kernel
theorem dX6_sweep_158 : decode cX6_sweep 158 = .ok (.iinc 5 1, 3) := by decide +kernel
theorem dX6_sweep_161 : decode cX6_sweep 161 = .ok (.goto (-40), 3) := by decide +kernel
theorem dX6_sweep_164 : decode cX6_sweep 164 = .ok (.iinc 3 1, 3) := by decide +kernel
theorem dX6_sweep_167 : decode cX6_sweep 167 = .ok (.goto (-127), 3) := by decide +kernel
theorem dX6_sweep_170 : decode cX6_sweep 170 = .ok (.iload_n 2, 1) := by decide +kernel
theorem dX6_sweep_171 : decode cX6_sweep 171 = .ok (.ireturn, 1) := by decide +kernel
theorem dX6_lays_0 : decode cX6_lays 0 = .ok (.iconst 1, 1) := by decide +kernel
theorem dX6_lays_1 : decode cX6_lays 1 = .ok (.istore 4, 2) := by decide +kernel
theorem dX6_lays_3 : decode cX6_lays 3 = .ok (.aload_n 0, 1) := by decide +kernel
theorem dX6_lays_4 : decode cX6_lays 4 = .ok (.getfield 71, 3) := by decide +kernel
theorem dX6_lays_7 : decode cX6_lays 7 = .ok (.iconst 0, 1) := by decide +kernel
theorem dX6_lays_8 : decode cX6_lays 8 = .ok (.iload_n 2, 1) := by decide +kernel
theorem dX6_lays_9 : decode cX6_lays 9 = .ok (.iastore, 1) := by decide +kernel
theorem dX6_lays_10 : decode cX6_lays 10 = .ok (.iconst 0, 1) := by decide +kernel
theorem dX6_lays_11 : decode cX6_lays 11 = .ok (.istore 5, 2) := by decide +kernel
theorem dX6_lays_13 : decode cX6_lays 13 = .ok (.iload 5, 2) := by decide +kernel
theorem dX6_lays_15 : decode cX6_lays 15 = .ok (.iload 4, 2) := by decide +kernel
theorem dX6_lays_17 : decode cX6_lays 17 = .ok (.if_icmp .ge 100, 3) := by decide +kernel
theorem dX6_lays_20 : decode cX6_lays 20 = .ok (.iload 5, 2) := by decide +kernel
theorem dX6_lays_22 : decode cX6_lays 22 = .ok (.iload_n 3, 1) := by decide +kernel
theorem dX6_lays_23 : decode cX6_lays 23 = .ok (.if_icmp .ge 94, 3) := by decide +kernel
theorem dX6_lays_26 : decode cX6_lays 26 = .ok (.aload_n 0, 1) := by decide +kernel
theorem dX6_lays_27 : decode cX6_lays 27 = .ok (.getfield 68, 3) := by decide +kernel
theorem dX6_lays_30 : decode cX6_lays 30 = .ok (.aload_n 0, 1) := by decide +kernel
theorem dX6_lays_31 : decode cX6_lays 31 = .ok (.getfield 71, 3) := by decide +kernel
theorem dX6_lays_34 : decode cX6_lays 34 = .ok (.iload 5, 2) := by decide +kernel
theorem dX6_lays_36 : decode cX6_lays 36 = .ok (.iaload, 1) := by decide +kernel
theorem dX6_lays_37 : decode cX6_lays 37 = .ok (.iload_n 2, 1) := by decide +kernel
theorem dX6_lays_38 : decode cX6_lays 38 = .ok (.iastore, 1) := by decide +kernel
theorem dX6_lays_39 : decode cX6_lays 39 = .ok (.aload_n 0, 1) := by decide +kernel
theorem dX6_lays_40 : decode cX6_lays 40 = .ok (.getfield 19, 3) := by decide +kernel
theorem dX6_lays_43 : decode cX6_lays 43 = .ok (.bipush 64, 2) := by decide +kernel
theorem dX6_lays_45 : decode cX6_lays 45 = .ok (.iload_n 1, 1) := by decide +kernel
theorem dX6_lays_46 : decode cX6_lays 46 = .ok (.imul, 1) := by decide +kernel
theorem dX6_lays_47 : decode cX6_lays 47 = .ok (.aload_n 0, 1) := by decide +kernel
theorem dX6_lays_48 : decode cX6_lays 48 = .ok (.getfield 71, 3) := by decide +kernel
theorem dX6_lays_51 : decode cX6_lays 51 = .ok (.iload 5, 2) := by decide +kernel
theorem dX6_lays_53 : decode cX6_lays 53 = .ok (.iaload, 1) := by decide +kernel
theorem dX6_lays_54 : decode cX6_lays 54 = .ok (.iadd, 1) := by decide +kernel
theorem dX6_lays_55 : decode cX6_lays 55 = .ok (.iaload, 1) := by decide +kernel
theorem dX6_lays_56 : decode cX6_lays 56 = .ok (.istore 6, 2) := by decide +kernel
theorem dX6_lays_58 : decode cX6_lays 58 = .ok (.aload_n 0, 1) := by decide +kernel
theorem dX6_lays_59 : decode cX6_lays 59 = .ok (.getfield 22, 3) := by decide +kernel
theorem dX6_lays_62 : decode cX6_lays 62 = .ok (.bipush 64, 2) := by decide +kernel
theorem dX6_lays_64 : decode cX6_lays 64 = .ok (.iload_n 1, 1) := by decide +kernel
theorem dX6_lays_65 : decode cX6_lays 65 = .ok (.imul, 1) := by decide +kernel
theorem dX6_lays_66 : decode cX6_lays 66 = .ok (.aload_n 0, 1) := by decide +kernel
theorem dX6_lays_67 : decode cX6_lays 67 = .ok (.getfield 71, 3) := by decide +kernel
theorem dX6_lays_70 : decode cX6_lays 70 = .ok (.iload 5, 2) := by decide +kernel
theorem dX6_lays_72 : decode cX6_lays 72 = .ok (.iaload, 1) := by decide +kernel
theorem dX6_lays_73 : decode cX6_lays 73 = .ok (.iadd, 1) := by decide +kernel
theorem dX6_lays_74 : decode cX6_lays 74 = .ok (.iaload, 1) := by decide +kernel
theorem dX6_lays_75 : decode cX6_lays 75 = .ok (.istore 7, 2) := by decide +kernel
theorem dX6_lays_77 : decode cX6_lays 77 = .ok (.iload 6, 2) := by decide +kernel
theorem dX6_lays_79 : decode cX6_lays 79 = .ok (.ifCond .lt 15, 3) := by decide +kernel
theorem dX6_lays_82 : decode cX6_lays 82 = .ok (.aload_n 0, 1) := by decide +kernel
theorem dX6_lays_83 : decode cX6_lays 83 = .ok (.getfield 71, 3) := by decide +kernel
theorem dX6_lays_86 : decode cX6_lays 86 = .ok (.iload 4, 2) := by decide +kernel
theorem dX6_lays_88 : decode cX6_lays 88 = .ok (.iload 6, 2) := by decide +kernel
theorem dX6_lays_90 : decode cX6_lays 90 = .ok (.iastore, 1) := by decide +kernel
theorem dX6_lays_91 : decode cX6_lays 91 = .ok (.iinc 4 1, 3) := by decide +kernel
theorem dX6_lays_94 : decode cX6_lays 94 = .ok (.iload 7, 2) := by decide +kernel
theorem dX6_lays_96 : decode cX6_lays 96 = .ok (.ifCond .lt 15, 3) := by decide +kernel
theorem dX6_lays_99 : decode cX6_lays 99 = .ok (.aload_n 0, 1) := by decide +kernel
theorem dX6_lays_100 : decode cX6_lays 100 = .ok (.getfield 71, 3) := by decide +kernel
theorem dX6_lays_103 : decode cX6_lays 103 = .ok (.iload 4, 2) := by decide +kernel
theorem dX6_lays_105 : decode cX6_lays 105 = .ok (.iload 7, 2) := by decide +kernel
theorem dX6_lays_107 : decode cX6_lays 107 = .ok (.iastore, 1) := by decide +kernel
theorem dX6_lays_108 : decode cX6_lays 108 = .ok (.iinc 4 1, 3) := by decide +kernel
theorem dX6_lays_111 : decode cX6_lays 111 = .ok (.iinc 5 1, 3) := by decide +kernel
theorem dX6_lays_114 : decode cX6_lays 114 = .ok (.goto (-101), 3) := by decide +kernel
theorem dX6_lays_117 : decode cX6_lays 117 = .ok (.return_, 1) := by decide +kernel
set_option maxRecDepth 20000 in
theorem ggX6_pages_X6_isTree : GoodIn wsX6_pages wsX6_isTree := goodIn_r _ [11, 12, 21, 22, 23, 24, 25, 26, 27, 28, 29, 30, 31, 32, 33, 34, 35, 36, 37, 38, 39, 40, 41, 42, 43, 44, 45, 46, 47, 48] (by decide +kernel) (by decide +kernel)
set_option maxRecDepth 20000 in
theorem gX6_pages_X6_isTree : GoodIn wsX6_pages (wsV RX6 154 RX6 yX6_isTree wsX6_isTree) := goodIn_app (goodIn_of _ (by decide +kernel)) ggX6_pages_X6_isTree
set_option maxRecDepth 20000 in
theorem ggX6_pages_X6_isKey : GoodIn wsX6_pages wsX6_isKey := goodIn_r _ [15] (by decide +kernel) (by decide +kernel)
set_option maxRecDepth 20000 in
theorem gX6_pages_X6_isKey : GoodIn wsX6_pages (va_wsS RX6 158 yX6_isKey wsX6_isKey) := goodIn_app (goodIn_of _ (by decide +kernel)) ggX6_pages_X6_isKey
set_option maxRecDepth 20000 in
theorem ggX6_pages_X6_lays : GoodIn wsX6_pages wsX6_lays := goodIn_r _ [19, 20, 3, 5, 6, 21, 22, 23, 24, 25, 26, 27, 28, 29, 30, 31, 32, 33, 34, 35, 36, 37, 38, 39, 40, 41, 42, 43, 44, 45, 46, 47, 48] (by decide +kernel) (by decide +kernel)
set_option maxRecDepth 20000 in
theorem gX6_pages_X6_lays : GoodIn wsX6_pages (wsV RX6 194 RX6 yX6_lays wsX6_lays) := goodIn_app (goodIn_of _ (by decide +kernel)) ggX6_pages_X6_lays
theorem dX6_pages_0 : decode cX6_pages 0 = .ok (.aload_n 0, 1) := by decide +kernel
theorem dX6_pages_1 : decode cX6_pages 1 = .ok (.iconst 0, 1) := by decide +kernel
theorem dX6_pages_2 : decode cX6_pages 2 = .ok (.putfield 77, 3) := by decide +kernel
theorem dX6_pages_5 : decode cX6_pages 5 = .ok (.aload_n 0, 1) := by decide +kernel
theorem dX6_pages_6 : decode cX6_pages 6 = .ok (.iload_n 1, 1) := by decide +kernel
theorem dX6_pages_7 : decode cX6_pages 7 = .ok (.invokevirtual 154, 3) := by decide +kernel
theorem dX6_pages_10 : decode cX6_pages 10 = .ok (.ifCond .eq 35, 3) := by decide +kernel
theorem dX6_pages_13 : decode cX6_pages 13 = .ok (.iload_n 2, 1) := by decide +kernel
theorem dX6_pages_14 : decode cX6_pages 14 = .ok (.iconst 1, 1) := by decide +kernel
theorem dX6_pages_15 : decode cX6_pages 15 = .ok (.if_icmp .lt 30, 3) := by decide +kernel
theorem dX6_pages_18 : decode cX6_pages 18 = .ok (.iload_n 2, 1) := by decide +kernel
theorem dX6_pages_19 : decode cX6_pages 19 = .ok (.bipush 16, 2) := by decide +kernel
theorem dX6_pages_21 : decode cX6_pages 21 = .ok (.if_icmp .gt 24, 3) := by decide +kernel
theorem dX6_pages_24 : decode cX6_pages 24 = .ok (.iload_n 3, 1) := by decide +kernel
theorem dX6_pages_25 : decode cX6_pages 25 = .ok (.invokestatic 158, 3) := by decide +kernel
theorem dX6_pages_28 : decode cX6_pages 28 = .ok (.ifCond .eq 17, 3) := by decide +kernel
theorem dX6_pages_31 : decode cX6_pages 31 = .ok (.aload_n 0, 1) := by decide +kernel
theorem dX6_pages_32 : decode cX6_pages 32 = .ok (.getfield 25, 3) := by decide +kernel
theorem dX6_pages_35 : decode cX6_pages 35 = .ok (.bipush 64, 2) := by decide +kernel
theorem dX6_pages_37 : decode cX6_pages 37 = .ok (.iload_n 1, 1) := by decide +kernel
theorem dX6_pages_38 : decode cX6_pages 38 = .ok (.imul, 1) := by decide +kernel
theorem dX6_pages_39 : decode cX6_pages 39 = .ok (.iload_n 3, 1) := by decide +kernel
theorem dX6_pages_40 : decode cX6_pages 40 = .ok (.iadd, 1) := by decide +kernel
theorem dX6_pages_41 : decode cX6_pages 41 = .ok (.baload, 1) := by decide +kernel
theorem dX6_pages_42 : decode cX6_pages 42 = .ok (.ifCond .ne 5, 3) := by decide +kernel
theorem dX6_pages_45 : decode cX6_pages 45 = .ok (.iconst (-1), 1) := by decide +kernel
theorem dX6_pages_46 : decode cX6_pages 46 = .ok (.ireturn, 1) := by decide +kernel
theorem dX6_pages_47 : decode cX6_pages 47 = .ok (.iconst 0, 1) := by decide +kernel
theorem dX6_pages_48 : decode cX6_pages 48 = .ok (.istore 4, 2) := by decide +kernel
theorem dX6_pages_50 : decode cX6_pages 50 = .ok (.iload 4, 2) := by decide +kernel
theorem dX6_pages_52 : decode cX6_pages 52 = .ok (.bipush 64, 2) := by decide +kernel
theorem dX6_pages_54 : decode cX6_pages 54 = .ok (.if_icmp .ge 17, 3) := by decide +kernel
theorem dX6_pages_57 : decode cX6_pages 57 = .ok (.aload_n 0, 1) := by decide +kernel
theorem dX6_pages_58 : decode cX6_pages 58 = .ok (.getfield 68, 3) := by decide +kernel
theorem dX6_pages_61 : decode cX6_pages 61 = .ok (.iload 4, 2) := by decide +kernel
theorem dX6_pages_63 : decode cX6_pages 63 = .ok (.iconst (-1), 1) := by decide +kernel
theorem dX6_pages_64 : decode cX6_pages 64 = .ok (.iastore, 1) := by decide +kernel
theorem dX6_pages_65 : decode cX6_pages 65 = .ok (.iinc 4 1, 3) := by decide +kernel
theorem dX6_pages_68 : decode cX6_pages 68 = .ok (.goto (-18), 3) := by decide +kernel
theorem dX6_pages_71 : decode cX6_pages 71 = .ok (.iconst 0, 1) := by decide +kernel
theorem dX6_pages_72 : decode cX6_pages 72 = .ok (.istore 4, 2) := by decide +kernel
theorem dX6_pages_74 : decode cX6_pages 74 = .ok (.aload_n 0, 1) := by decide +kernel
theorem dX6_pages_75 : decode cX6_pages 75 = .ok (.getfield 13, 3) := by decide +kernel
theorem dX6_pages_78 : decode cX6_pages 78 = .ok (.iload_n 1, 1) := by decide +kernel
theorem dX6_pages_79 : decode cX6_pages 79 = .ok (.iaload, 1) := by decide +kernel
theorem dX6_pages_80 : decode cX6_pages 80 = .ok (.istore 5, 2) := by decide +kernel
theorem dX6_pages_82 : decode cX6_pages 82 = .ok (.aload_n 0, 1) := by decide +kernel
theorem dX6_pages_83 : decode cX6_pages 83 = .ok (.getfield 68, 3) := by decide +kernel
theorem dX6_pages_86 : decode cX6_pages 86 = .ok (.iload_n 3, 1) := by decide +kernel
theorem dX6_pages_87 : decode cX6_pages 87 = .ok (.iaload, 1) := by decide +kernel
theorem dX6_pages_88 : decode cX6_pages 88 = .ok (.ifCond .ge 68, 3) := by decide +kernel
theorem dX6_pages_91 : decode cX6_pages 91 = .ok (.aload_n 0, 1) := by decide +kernel
theorem dX6_pages_92 : decode cX6_pages 92 = .ok (.iload_n 1, 1) := by decide +kernel
theorem dX6_pages_93 : decode cX6_pages 93 = .ok (.iload 5, 2) := by decide +kernel
theorem dX6_pages_95 : decode cX6_pages 95 = .ok (.iload_n 2, 1) := by decide +kernel
theorem dX6_pages_96 : decode cX6_pages 96 = .ok (.invokevirtual 194, 3) := by decide +kernel
theorem dX6_pages_99 : decode cX6_pages 99 = .ok (.iinc 4 1, 3) := by decide +kernel
theorem dX6_pages_102 : decode cX6_pages 102 = .ok (.iload 5, 2) := by decide +kernel
theorem dX6_pages_104 : decode cX6_pages 104 = .ok (.iload_n 3, 1) := by decide +kernel
theorem dX6_pages_105 : decode cX6_pages 105 = .ok (.if_icmp .eq (-23), 3) := by decide +kernel
theorem dX6_pages_108 : decode cX6_pages 108 = .ok (.aload_n 0, 1) := by decide +kernel
theorem dX6_pages_109 : decode cX6_pages 109 = .ok (.getfield 68, 3) := by decide +kernel
theorem dX6_pages_112 : decode cX6_pages 112 = .ok (.iload 5, 2) := by decide +kernel
theorem dX6_pages_114 : decode cX6_pages 114 = .ok (.iaload, 1) := by decide +kernel
theorem dX6_pages_115 : decode cX6_pages 115 = .ok (.ifCond .lt (-33), 3) := by decide +kernel
theorem dX6_pages_118 : decode cX6_pages 118 = .ok (.iload_n 3, 1) := by decide +kernel
theorem dX6_pages_119 : decode cX6_pages 119 = .ok (.iload 5, 2) := by decide +kernel
theorem dX6_pages_121 : decode cX6_pages 121 = .ok (.if_icmp .ge 18, 3) := by decide +kernel
theorem dX6_pages_124 : decode cX6_pages 124 = .ok (.aload_n 0, 1) := by decide +kernel
theorem dX6_pages_125 : decode cX6_pages 125 = .ok (.getfield 19, 3) := by decide +kernel
theorem dX6_pages_128 : decode cX6_pages 128 = .ok (.bipush 64, 2) := by decide +kernel
theorem dX6_pages_130 : decode cX6_pages 130 = .ok (.iload_n 1, 1) := by decide +kernel
theorem dX6_pages_131 : decode cX6_pages 131 = .ok (.imul, 1) := by decide +kernel
theorem dX6_pages_132 : decode cX6_pages 132 = .ok (.iload 5, 2) := by decide +kernel
theorem dX6_pages_134 : decode cX6_pages 134 = .ok (.iadd, 1) := by decide +kernel
theorem dX6_pages_135 : decode cX6_pages 135 = .ok (.iaload, 1) := by decide +kernel
theorem dX6_pages_136 : decode cX6_pages 136 = .ok (.goto 15, 3) := by decide +kernel
theorem dX6_pages_139 : decode cX6_pages 139 = .ok (.aload_n 0, 1) := by decide +kernel
theorem dX6_pages_140 : decode cX6_pages 140 = .ok (.getfield 22, 3) := by decide +kernel
theorem dX6_pages_143 : decode cX6_pages 143 = .ok (.bipush 64, 2) := by decide +kernel
theorem dX6_pages_145 : decode cX6_pages 145 = .ok (.iload_n 1, 1) := by decide +kernel
theorem dX6_pages_146 : decode cX6_pages 146 = .ok (.imul, 1) := by decide +kernel
theorem dX6_pages_147 : decode cX6_pages 147 = .ok (.iload 5, 2) := by decide +kernel
theorem dX6_pages_149 : decode cX6_pages 149 = .ok (.iadd, 1) := by decide +kernel
theorem dX6_pages_150 : decode cX6_pages 150 = .ok (.iaload, 1) := by decide +kernel
theorem dX6_pages_151 : decode cX6_pages 151 = .ok (.istore 5, 2) := by decide +kernel
theorem dX6_pages_153 : decode cX6_pages 153 = .ok (.goto (-51), 3) := by decide +kernel
theorem dX6_pages_156 : decode cX6_pages 156 = .ok (.iload 4, 2) := by decide +kernel
theorem dX6_pages_158 : decode cX6_pages 158 = .ok (.ireturn, 1) := by decide +kernel
set_option maxRecDepth 20000 in
theorem ggX6_keep_X6_isTree : GoodIn wsX6_keep wsX6_isTree := goodIn_r _ [9, 10, 16, 17, 18, 19, 20, 21, 22, 23, 24, 25, 26, 27, 28, 29, 30, 31, 32, 33, 34, 35, 36, 37, 38, 39, 40, 41, 42, 43] (by decide +kernel) (by decide +kernel)
set_option maxRecDepth 20000 in
theorem gX6_keep_X6_isTree : GoodIn wsX6_keep (wsV RX6 154 RX6 yX6_isTree wsX6_isTree) := goodIn_app (goodIn_of _ (by decide +kernel)) ggX6_keep_X6_isTree
set_option maxRecDepth 20000 in
theorem ggX6_keep_X6_depthOf : GoodIn wsX6_keep wsX6_depthOf := goodIn_r _ [14, 15, 16, 17, 18, 19, 20, 21, 22, 23, 24, 25, 26, 27, 28, 29, 30, 31, 32, 33, 34, 35, 36, 37, 38, 39, 40, 41, 42, 43] (by decide +kernel) (by decide +kernel)
set_option maxRecDepth 20000 in
theorem gX6_keep_X6_depthOf : GoodIn wsX6_keep (wsV RX6 125 RX6 yX6_depthOf wsX6_depthOf) := goodIn_app (goodIn_of _ (by decide +kernel)) ggX6_keep_X6_depthOf
theorem dX6_keep_0 : decode cX6_keep 0 = .ok (.aload_n 0, 1) := by decide +kernel
theorem dX6_keep_1 : decode cX6_keep 1 = .ok (.iconst 0, 1) := by decide +kernel
theorem dX6_keep_2 : decode cX6_keep 2 = .ok (.putfield 77, 3) := by decide +kernel
theorem dX6_keep_5 : decode cX6_keep 5 = .ok (.aload_n 0, 1) := by decide +kernel
theorem dX6_keep_6 : decode cX6_keep 6 = .ok (.iload_n 1, 1) := by decide +kernel
theorem dX6_keep_7 : decode cX6_keep 7 = .ok (.invokevirtual 154, 3) := by decide +kernel
theorem dX6_keep_10 : decode cX6_keep 10 = .ok (.ifCond .eq 12, 3) := by decide +kernel
theorem dX6_keep_13 : decode cX6_keep 13 = .ok (.aload_n 0, 1) := by decide +kernel
theorem dX6_keep_14 : decode cX6_keep 14 = .ok (.getfield 197, 3) := by decide +kernel
theorem dX6_keep_17 : decode cX6_keep 17 = .ok (.bipush 20, 2) := by decide +kernel
theorem dX6_keep_19 : decode cX6_keep 19 = .ok (.if_icmp .ne 5, 3) := by decide +kernel
theorem dX6_keep_22 : decode cX6_keep 22 = .ok (.iconst (-1), 1) := by decide +kernel
theorem dX6_keep_23 : decode cX6_keep 23 = .ok (.ireturn, 1) := by decide +kernel
theorem dX6_keep_24 : decode cX6_keep 24 = .ok (.iconst 0, 1) := by decide +kernel
theorem dX6_keep_25 : decode cX6_keep 25 = .ok (.istore_n 2, 1) := by decide +kernel
theorem dX6_keep_26 : decode cX6_keep 26 = .ok (.iload_n 2, 1) := by decide +kernel
theorem dX6_keep_27 : decode cX6_keep 27 = .ok (.bipush 64, 2) := by decide +kernel
theorem dX6_keep_29 : decode cX6_keep 29 = .ok (.if_icmp .ge 47, 3) := by decide +kernel
theorem dX6_keep_32 : decode cX6_keep 32 = .ok (.aload_n 0, 1) := by decide +kernel
theorem dX6_keep_33 : decode cX6_keep 33 = .ok (.getfield 74, 3) := by decide +kernel
theorem dX6_keep_36 : decode cX6_keep 36 = .ok (.bipush 64, 2) := by decide +kernel
theorem dX6_keep_38 : decode cX6_keep 38 = .ok (.aload_n 0, 1) := by decide +kernel
theorem dX6_keep_39 : decode cX6_keep 39 = .ok (.getfield 197, 3) := by decide +kernel
theorem dX6_keep_42 : decode cX6_keep 42 = .ok (.imul, 1) := by decide +kernel
theorem dX6_keep_43 : decode cX6_keep 43 = .ok (.iload_n 2, 1) := by decide +kernel
theorem dX6_keep_44 : decode cX6_keep 44 = .ok (.iadd, 1) := by decide +kernel
theorem dX6_keep_45 : decode cX6_keep 45 = .ok (.aload_n 0, 1) := by decide +kernel
theorem dX6_keep_46 : decode cX6_keep 46 = .ok (.getfield 25, 3) := by decide +kernel
theorem dX6_keep_49 : decode cX6_keep 49 = .ok (.bipush 64, 2) := by decide +kernel
theorem dX6_keep_51 : decode cX6_keep 51 = .ok (.iload_n 1, 1) := by decide +kernel
theorem dX6_keep_52 : decode cX6_keep 52 = .ok (.imul, 1) := by decide +kernel
theorem dX6_keep_53 : decode cX6_keep 53 = .ok (.iload_n 2, 1) := by decide +kernel
theorem dX6_keep_54 : decode cX6_keep 54 = .ok (.iadd, 1) := by decide +kernel
theorem dX6_keep_55 : decode cX6_keep 55 = .ok (.baload, 1) := by decide +kernel
theorem dX6_keep_56 : decode cX6_keep 56 = .ok (.ifCond .eq 12, 3) := by decide +kernel
theorem dX6_keep_59 : decode cX6_keep 59 = .ok (.aload_n 0, 1) := by decide +kernel
theorem dX6_keep_60 : decode cX6_keep 60 = .ok (.iload_n 1, 1) := by decide +kernel
theorem dX6_keep_61 : decode cX6_keep 61 = .ok (.iload_n 2, 1) := by decide +kernel
theorem dX6_keep_62 : decode cX6_keep 62 = .ok (.invokevirtual 125, 3) := by decide +kernel
theorem dX6_keep_65 : decode cX6_keep 65 = .ok (.goto 4, 3) := by decide +kernel
theorem dX6_keep_68 : decode cX6_keep 68 = .ok (.iconst 0, 1) := by decide +kernel
theorem dX6_keep_69 : decode cX6_keep 69 = .ok (.iastore, 1) := by decide +kernel
theorem dX6_keep_70 : decode cX6_keep 70 = .ok (.iinc 2 1, 3) := by decide +kernel
theorem dX6_keep_73 : decode cX6_keep 73 = .ok (.goto (-47), 3) := by decide +kernel
theorem dX6_keep_76 : decode cX6_keep 76 = .ok (.aload_n 0, 1) := by decide +kernel
theorem dX6_keep_77 : decode cX6_keep 77 = .ok (.dup, 1) := by decide +kernel
theorem dX6_keep_78 : decode cX6_keep 78 = .ok (.getfield 197, 3) := by decide +kernel
theorem dX6_keep_81 : decode cX6_keep 81 = .ok (.iconst 1, 1) := by decide +kernel
theorem dX6_keep_82 : decode cX6_keep 82 = .ok (.iadd, 1) := by decide +kernel
theorem dX6_keep_83 : decode cX6_keep 83 = .ok (.putfield 197, 3) := by decide +kernel
theorem dX6_keep_86 : decode cX6_keep 86 = .ok (.aload_n 0, 1) := by decide +kernel
theorem dX6_keep_87 : decode cX6_keep 87 = .ok (.getfield 197, 3) := by decide +kernel
theorem dX6_keep_90 : decode cX6_keep 90 = .ok (.iconst 1, 1) := by decide +kernel
theorem dX6_keep_91 : decode cX6_keep 91 = .ok (.isub, 1) := by decide +kernel
theorem dX6_keep_92 : decode cX6_keep 92 = .ok (.ireturn, 1) := by decide +kernel
set_option maxRecDepth 20000 in
theorem ggX6_kept_X6_isKey : GoodIn wsX6_kept wsX6_isKey := goodIn_r _ [7] (by decide +kernel) (by decide +kernel)
set_option maxRecDepth 20000 in
theorem gX6_kept_X6_isKey : GoodIn wsX6_kept (va_wsS RX6 158 yX6_isKey wsX6_isKey) := goodIn_app (goodIn_of _ (by decide +kernel)) ggX6_kept_X6_isKey
theorem dX6_kept_0 : decode cX6_kept 0 = .ok (.aload_n 0, 1) := by decide +kernel
theorem dX6_kept_1 : decode cX6_kept 1 = .ok (.iconst 0, 1) := by decide +kernel
theorem dX6_kept_2 : decode cX6_kept 2 = .ok (.putfield 77, 3) := by decide +kernel
theorem dX6_kept_5 : decode cX6_kept 5 = .ok (.iload_n 1, 1) := by decide +kernel
theorem dX6_kept_6 : decode cX6_kept 6 = .ok (.ifCond .lt 18, 3) := by decide +kernel
theorem dX6_kept_9 : decode cX6_kept 9 = .ok (.iload_n 1, 1) := by decide +kernel
theorem dX6_kept_10 : decode cX6_kept 10 = .ok (.aload_n 0, 1) := by decide +kernel
theorem dX6_kept_11 : decode cX6_kept 11 = .ok (.getfield 197, 3) := by decide +kernel
theorem dX6_kept_14 : decode cX6_kept 14 = .ok (.if_icmp .ge 10, 3) := by decide +kernel
theorem dX6_kept_17 : decode cX6_kept 17 = .ok (.iload_n 2, 1) := by decide +kernel
theorem dX6_kept_18 : decode cX6_kept 18 = .ok (.invokestatic 158, 3) := by decide +kernel
theorem dX6_kept_21 : decode cX6_kept 21 = .ok (.ifCond .ne 7, 3) := by decide +kernel
theorem dX6_kept_24 : decode cX6_kept 24 = .ok (.iconst (-1), 1) := by decide +kernel
theorem dX6_kept_25 : decode cX6_kept 25 = .ok (.goto 14, 3) := by decide +kernel
theorem dX6_kept_28 : decode cX6_kept 28 = .ok (.aload_n 0, 1) := by decide +kernel
theorem dX6_kept_29 : decode cX6_kept 29 = .ok (.getfield 74, 3) := by decide +kernel
theorem dX6_kept_32 : decode cX6_kept 32 = .ok (.bipush 64, 2) := by decide +kernel
theorem dX6_kept_34 : decode cX6_kept 34 = .ok (.iload_n 1, 1) := by decide +kernel
theorem dX6_kept_35 : decode cX6_kept 35 = .ok (.imul, 1) := by decide +kernel
theorem dX6_kept_36 : decode cX6_kept 36 = .ok (.iload_n 2, 1) := by decide +kernel
theorem dX6_kept_37 : decode cX6_kept 37 = .ok (.iadd, 1) := by decide +kernel
theorem dX6_kept_38 : decode cX6_kept 38 = .ok (.iaload, 1) := by decide +kernel
theorem dX6_kept_39 : decode cX6_kept 39 = .ok (.ireturn, 1) := by decide +kernel
theorem dJ9_max_7cf53_0 : decode cJ9_max_7cf53 0 = .ok (.iload_n 0, 1) := by decide +kernel
theorem dJ9_max_7cf53_1 : decode cJ9_max_7cf53 1 = .ok (.iload_n 1, 1) := by decide +kernel
theorem dJ9_max_7cf53_2 : decode cJ9_max_7cf53 2 = .ok (.if_icmp .lt 7, 3) := by decide +kernel
theorem dJ9_max_7cf53_5 : decode cJ9_max_7cf53 5 = .ok (.iload_n 0, 1) := by decide +kernel
theorem dJ9_max_7cf53_6 : decode cJ9_max_7cf53 6 = .ok (.goto 4, 3) := by decide +kernel
theorem dJ9_max_7cf53_9 : decode cJ9_max_7cf53 9 = .ok (.iload_n 1, 1) := by decide +kernel
theorem dJ9_max_7cf53_10 : decode cJ9_max_7cf53 10 = .ok (.ireturn, 1) := by decide +kernel
theorem dJ7_fill_53178_0 : decode cJ7_fill_53178 0 = .ok (.iconst 0, 1) := by decide +kernel
theorem dJ7_fill_53178_1 : decode cJ7_fill_53178 1 = .ok (.istore_n 2, 1) := by decide +kernel
theorem dJ7_fill_53178_2 : decode cJ7_fill_53178 2 = .ok (.aload_n 0, 1) := by decide +kernel
theorem dJ7_fill_53178_3 : decode cJ7_fill_53178 3 = .ok (.arraylength, 1) := by decide +kernel
theorem dJ7_fill_53178_4 : decode cJ7_fill_53178 4 = .ok (.istore_n 3, 1) := by decide +kernel
theorem dJ7_fill_53178_5 : decode cJ7_fill_53178 5 = .ok (.iload_n 2, 1) := by decide +kernel
theorem dJ7_fill_53178_6 : decode cJ7_fill_53178 6 = .ok (.iload_n 3, 1) := by decide +kernel
theorem dJ7_fill_53178_7 : decode cJ7_fill_53178 7 = .ok (.if_icmp .ge 13, 3) := by decide +kernel
theorem dJ7_fill_53178_10 : decode cJ7_fill_53178 10 = .ok (.aload_n 0, 1) := by decide +kernel
theorem dJ7_fill_53178_11 : decode cJ7_fill_53178 11 = .ok (.iload_n 2, 1) := by decide +kernel
theorem dJ7_fill_53178_12 : decode cJ7_fill_53178 12 = .ok (.iload_n 1, 1) := by decide +kernel
theorem dJ7_fill_53178_13 : decode cJ7_fill_53178 13 = .ok (.iastore, 1) := by decide +kernel
theorem dJ7_fill_53178_14 : decode cJ7_fill_53178 14 = .ok (.iinc 2 1, 3) := by decide +kernel
theorem dJ7_fill_53178_17 : decode cJ7_fill_53178 17 = .ok (.goto (-12), 3) := by decide +kernel
theorem dJ7_fill_53178_20 : decode cJ7_fill_53178 20 = .ok (.return_, 1) := by decide +kernel
set_option maxRecDepth 20000 in
theorem ggL_ask_X5_ask : GoodIn wsL_ask wsX5_ask := goodIn_ca (goodIn_r _ [6, 7, 8, 9, 10, 11, 5, 12, 13, 14, 15, 16, 17, 18, 19, 20, 21, 22, 23, 24, 25, 26, 27, 28, 29, 30, 31, 32, 33, 34, 35, 36, 37, 38, 39, 40, 41, 42, 43, 44, 45, 46, 47, 48, 49, 50, 51, 52, 53, 54, 55, 56, 57, 58, 59, 60, 61, 62, 63, 64, 65, 66, 67, 68, 69, 70, 71, 72, 73, 74, 75, 76, 77, 78, 79, 80, 81, 82, 83, 84, 85, 86, 87, 88, 89, 90, 91, 92, 93, 94, 95, 96, 97, 98, 99, 100, 101, 102, 103, 104, 105, 106, 107, 108, 109, 110, 111, 112, 113, 114, 115, 116, 117, 118, 119, 120, 121, 122, 123, 124, 125] (by decide +kernel) (by decide +kernel)) (goodIn_sub (fun _ h => List.mem_cons_of_mem _ (List.mem_append_right _ h)) (by decide +kernel))
set_option maxRecDepth 20000 in
theorem gL_ask_X5_ask : GoodIn wsL_ask (wsV RL 7 RX5 yX5_ask wsX5_ask) := goodIn_app (goodIn_of _ (by decide +kernel)) ggL_ask_X5_ask
theorem dL_ask_0 : decode cL_ask 0 = .ok (.aload_n 3, 1) := by decide +kernel
theorem dL_ask_1 : decode cL_ask 1 = .ok (.iconst 0, 1) := by decide +kernel
theorem dL_ask_2 : decode cL_ask 2 = .ok (.aload_n 0, 1) := by decide +kernel
theorem dL_ask_3 : decode cL_ask 3 = .ok (.iload_n 1, 1) := by decide +kernel
theorem dL_ask_4 : decode cL_ask 4 = .ok (.iload_n 2, 1) := by decide +kernel
theorem dL_ask_5 : decode cL_ask 5 = .ok (.invokevirtual 7, 3) := by decide +kernel
theorem dL_ask_8 : decode cL_ask 8 = .ok (.i2l, 1) := by decide +kernel
theorem dL_ask_9 : decode cL_ask 9 = .ok (.lastore, 1) := by decide +kernel
theorem dL_ask_10 : decode cL_ask 10 = .ok (.goto 7, 3) := by decide +kernel
theorem dL_ask_13 : decode cL_ask 13 = .ok (.astore 4, 2) := by decide +kernel
theorem dL_ask_15 : decode cL_ask 15 = .ok (.iconst 1, 1) := by decide +kernel
theorem dL_ask_16 : decode cL_ask 16 = .ok (.ireturn, 1) := by decide +kernel
theorem dL_ask_17 : decode cL_ask 17 = .ok (.iconst 0, 1) := by decide +kernel
theorem dL_ask_18 : decode cL_ask 18 = .ok (.ireturn, 1) := by decide +kernel
set_option maxRecDepth 20000 in
theorem ggL_remove_X5_remove : GoodIn wsL_remove wsX5_remove := goodIn_ca (goodIn_r _ [6, 7, 8, 9, 10, 11, 5, 12, 13, 14, 15, 16, 17, 18, 19, 20, 21, 22, 23, 24, 25, 26, 27, 28, 29, 30, 31, 32, 33, 34, 35, 36, 37, 38, 39, 40, 41, 42, 43, 44, 45, 46, 47, 48, 49, 50, 51, 52, 53, 54, 55, 56, 57, 58, 59, 60, 61, 62, 63, 64, 65, 66, 67, 68, 69, 70, 71, 72, 73, 74, 75, 76, 77, 78, 79, 80, 81, 82, 83, 84, 85, 86, 87, 88, 89, 90, 91, 92, 93, 94, 95, 96, 97, 98, 99, 100, 101, 102, 103, 104, 105, 106, 107, 108, 109, 110, 111, 112, 113, 114, 115, 116, 117, 118, 119, 120, 121, 122, 123, 124, 125, 126, 127, 128, 129, 130, 131, 132, 133, 134, 135, 136, 137, 138, 139, 140, 141, 142, 143, 144, 145, 146, 147, 148, 149, 150, 151, 152, 153, 154, 155, 156, 157, 158, 159, 160, 161, 162, 163, 164, 165, 166, 167, 168, 169] (by decide +kernel) (by decide +kernel)) (goodIn_sub (fun _ h => List.mem_cons_of_mem _ (List.mem_append_right _ h)) (by decide +kernel))
set_option maxRecDepth 20000 in
theorem gL_remove_X5_remove : GoodIn wsL_remove (wsV RL 15 RX5 yX5_remove wsX5_remove) := goodIn_app (goodIn_of _ (by decide +kernel)) ggL_remove_X5_remove
theorem dL_remove_0 : decode cL_remove 0 = .ok (.aload_n 3, 1) := by decide +kernel
theorem dL_remove_1 : decode cL_remove 1 = .ok (.iconst 0, 1) := by decide +kernel
theorem dL_remove_2 : decode cL_remove 2 = .ok (.aload_n 0, 1) := by decide +kernel
theorem dL_remove_3 : decode cL_remove 3 = .ok (.iload_n 1, 1) := by decide +kernel
theorem dL_remove_4 : decode cL_remove 4 = .ok (.iload_n 2, 1) := by decide +kernel
theorem dL_remove_5 : decode cL_remove 5 = .ok (.invokevirtual 15, 3) := by decide +kernel
theorem dL_remove_8 : decode cL_remove 8 = .ok (.i2l, 1) := by decide +kernel
theorem dL_remove_9 : decode cL_remove 9 = .ok (.lastore, 1) := by decide +kernel
theorem dL_remove_10 : decode cL_remove 10 = .ok (.goto 7, 3) := by decide +kernel
theorem dL_remove_13 : decode cL_remove 13 = .ok (.astore 4, 2) := by decide +kernel
theorem dL_remove_15 : decode cL_remove 15 = .ok (.iconst 1, 1) := by decide +kernel
theorem dL_remove_16 : decode cL_remove 16 = .ok (.ireturn, 1) := by decide +kernel
theorem dL_remove_17 : decode cL_remove 17 = .ok (.iconst 0, 1) := by decide +kernel
theorem dL_remove_18 : decode cL_remove 18 = .ok (.ireturn, 1) := by decide +kernel
set_option maxRecDepth 20000 in
theorem ggL_look_X5_look : GoodIn wsL_look wsX5_look := goodIn_ca (goodIn_r _ [6, 7, 8, 9, 10, 11, 12, 5, 13, 14, 15, 16, 17, 18, 19, 20, 21, 22, 23, 24, 25, 26, 27, 28, 29, 30, 31, 32, 33, 34, 35, 36, 37, 38, 39, 40, 41, 42, 43, 44, 45, 46, 47, 48, 49, 50, 51, 52, 53, 54, 55, 56, 57, 58, 59, 60, 61, 62, 63, 64, 65, 66, 67] (by decide +kernel) (by decide +kernel)) (goodIn_sub (fun _ h => List.mem_cons_of_mem _ (List.mem_append_right _ h)) (by decide +kernel))
set_option maxRecDepth 20000 in
theorem gL_look_X5_look : GoodIn wsL_look (wsV RL 18 RX5 yX5_look wsX5_look) := goodIn_app (goodIn_of _ (by decide +kernel)) ggL_look_X5_look
theorem dL_look_0 : decode cL_look 0 = .ok (.aload 4, 2) := by decide +kernel
theorem dL_look_2 : decode cL_look 2 = .ok (.iconst 0, 1) := by decide +kernel
theorem dL_look_3 : decode cL_look 3 = .ok (.aload_n 0, 1) := by decide +kernel
theorem dL_look_4 : decode cL_look 4 = .ok (.iload_n 1, 1) := by decide +kernel
theorem dL_look_5 : decode cL_look 5 = .ok (.iload_n 2, 1) := by decide +kernel
theorem dL_look_6 : decode cL_look 6 = .ok (.iload_n 3, 1) := by decide +kernel
theorem dL_look_7 : decode cL_look 7 = .ok (.invokevirtual 18, 3) := by decide +kernel
theorem dL_look_10 : decode cL_look 10 = .ok (.i2l, 1) := by decide +kernel
theorem dL_look_11 : decode cL_look 11 = .ok (.lastore, 1) := by decide +kernel
theorem dL_look_12 : decode cL_look 12 = .ok (.goto 7, 3) := by decide +kernel
theorem dL_look_15 : decode cL_look 15 = .ok (.astore 5, 2) := by decide +kernel
theorem dL_look_17 : decode cL_look 17 = .ok (.iconst 1, 1) := by decide +kernel
theorem dL_look_18 : decode cL_look 18 = .ok (.ireturn, 1) := by decide +kernel
theorem dL_look_19 : decode cL_look 19 = .ok (.iconst 0, 1) := by decide +kernel
theorem dL_look_20 : decode cL_look 20 = .ok (.ireturn, 1) := by decide +kernel
set_option maxRecDepth 20000 in
theorem ggL_law_X5_init : GoodIn wsL_law wsX5_init := goodIn_r _ [9, 10, 11, 12, 13, 14, 15, 16, 17, 18, 19, 20, 21, 22, 23, 24, 25, 26, 27, 28, 29, 30, 31, 32, 33, 34, 35, 36, 37, 38, 39, 40, 41, 42, 43, 44, 676, 677, 678, 679, 680, 681, 682, 711, 712, 713, 714, 715, 716, 717, 718, 719] (by decide +kernel) (by decide +kernel)
set_option maxRecDepth 20000 in
theorem gL_law_X5_init : GoodIn wsL_law (wsX5_init) := ggL_law_X5_init
set_option maxRecDepth 20000 in
theorem ggL_law_X6_init : GoodIn wsL_law wsX6_init := goodIn_r _ [47, 48, 11, 12, 16, 49, 50, 51, 52, 53, 54, 55, 56, 57, 58, 59, 60, 61, 62, 63, 64, 65, 66, 67, 68, 69, 70, 71, 683, 684, 685, 686, 687, 688, 689, 690, 691, 692, 693, 694, 695, 696, 697, 698, 699, 700, 701, 702, 703, 704, 705, 706, 707, 708, 709, 710] (by decide +kernel) (by decide +kernel)
set_option maxRecDepth 20000 in
theorem gL_law_X6_init : GoodIn wsL_law (wsX6_init) := ggL_law_X6_init
set_option maxRecDepth 20000 in
theorem ggL_law_X5_tree : GoodIn wsL_law wsX5_tree := goodIn_r _ [75, 76, 77, 78, 2, 79, 15, 14, 13, 80, 81, 82, 83, 84, 85, 11, 12, 86, 87, 88, 89, 90, 91, 92, 93, 94, 95, 96, 97, 98, 99, 100, 16, 101, 102, 103, 104, 105, 106, 107, 108, 109, 110, 111, 112, 113, 114, 115, 116, 117, 676, 677, 678, 679, 680, 681, 682, 720, 721, 722, 723, 724, 725, 726, 727, 728, 729, 730, 731, 732, 733] (by decide +kernel) (by decide +kernel)
set_option maxRecDepth 20000 in
theorem gL_law_X5_tree : GoodIn wsL_law (wsV RL 26 RX5 yX5_tree wsX5_tree) := goodIn_app (goodIn_of _ (by decide +kernel)) ggL_law_X5_tree
set_option maxRecDepth 20000 in
theorem ggL_law_X6_tree : GoodIn wsL_law wsX6_tree := goodIn_r _ [121, 122, 123, 124, 125, 126, 5, 127, 49, 50, 683, 684, 685, 686, 687, 688, 689, 690, 691, 692, 693, 694, 695, 696, 697, 698, 699, 700, 701, 702, 703, 704, 705, 706, 707, 708, 709, 710] (by decide +kernel) (by decide +kernel)
set_option maxRecDepth 20000 in
theorem gL_law_X6_tree : GoodIn wsL_law (wsV RL 30 RX6 yX6_tree wsX6_tree) := goodIn_app (goodIn_of _ (by decide +kernel)) ggL_law_X6_tree
set_option maxRecDepth 20000 in
theorem ggL_law_X5_add : GoodIn wsL_law wsX5_add := goodIn_r _ [131, 132, 133, 134, 135, 2, 136, 14, 137, 138, 139, 140, 141, 142, 89, 143, 144, 145, 146, 147, 104, 148, 149, 150, 81, 151, 90, 86, 96, 152, 153, 154, 155, 156, 157, 158, 159, 106, 160, 161, 162, 163, 101, 164, 165, 166, 167, 168, 169, 102, 170, 171, 172, 173, 174, 175, 176, 177, 178, 103, 179, 180, 181, 182, 183, 184, 185, 186, 187, 188, 189, 190, 191, 192, 193, 194, 195, 196, 197, 198, 199, 200, 201, 202, 203, 204, 205, 206, 207, 208, 209, 210, 211, 212, 213, 214, 215, 216, 217, 218, 219, 220, 221, 222, 223, 224, 225, 226, 105, 227, 228, 229, 230, 231, 232, 233, 234, 235, 236, 237, 238, 239, 240, 241, 242, 243, 244, 245, 246, 247, 248, 249, 250, 251, 252, 253, 254, 255, 256, 257, 258, 259, 107, 260, 261, 262, 263, 264, 265, 266, 267, 268, 269, 270, 271, 720, 721, 722, 723, 724, 676, 677, 678, 679, 680, 681, 682, 725, 726, 727, 728, 729, 730, 731] (by decide +kernel) (by decide +kernel)
set_option maxRecDepth 20000 in
theorem gL_law_X5_add : GoodIn wsL_law (wsV RL 31 RX5 yX5_add wsX5_add) := goodIn_app (goodIn_of _ (by decide +kernel)) ggL_law_X5_add
set_option maxRecDepth 20000 in
theorem ggL_law_X6_add : GoodIn wsL_law wsX6_add := goodIn_r _ [275, 122, 55, 276, 52, 53, 51, 56, 277, 50, 278, 279, 280, 5, 281, 123, 282, 283, 284, 285, 286, 287, 288, 289, 290, 291, 292, 293, 294, 295, 296, 297, 298, 299, 300, 49, 301, 302, 303, 304, 305, 306, 307, 308, 309, 310, 311, 312, 57, 313, 314, 315, 316, 317, 318, 319, 320, 321, 322, 323, 324, 59, 325, 326, 327, 328, 329, 330, 331, 332, 333, 334, 335, 336, 337, 338, 339, 340, 341, 342, 343, 344, 345, 346, 347, 348, 349, 350, 62, 351, 352, 353, 354, 355, 356, 357, 683, 684, 685, 686, 687, 688, 689, 690, 691, 692, 693, 694, 695, 696, 697, 698, 699, 700, 701, 702, 703, 704, 705, 706, 707, 708, 709, 710] (by decide +kernel) (by decide +kernel)
set_option maxRecDepth 20000 in
theorem gL_law_X6_add : GoodIn wsL_law (wsV RL 34 RX6 yX6_add wsX6_add) := goodIn_app (goodIn_of _ (by decide +kernel)) ggL_law_X6_add
set_option maxRecDepth 20000 in
theorem ggL_law_L_ask : GoodIn wsL_law wsL_ask := goodIn_ca (goodIn_r _ [361, 362, 363, 364, 365, 2, 366, 367, 368, 133, 134, 135, 136, 14, 137, 138, 139, 369, 370, 371, 81, 372, 90, 95, 94, 156, 157, 158, 89, 159, 106, 160, 161, 162, 163, 101, 164, 165, 166, 167, 168, 169, 102, 170, 171, 172, 173, 174, 141, 142, 143, 144, 145, 146, 147, 104, 175, 176, 177, 178, 103, 373, 374, 375, 93, 376, 117, 116, 187, 188, 260, 261, 262, 263, 86, 264, 265, 266, 267, 210, 256, 257, 258, 259, 107, 238, 239, 240, 241, 242, 243, 244, 245, 183, 184, 185, 186, 193, 194, 195, 196, 268, 269, 270, 271, 676, 677, 678, 679, 680, 681, 682, 720, 721, 722, 723, 724, 725, 726, 727, 728, 729, 730, 731, 732, 733] (by decide +kernel) (by decide +kernel)) (goodIn_sub (fun _ h => List.mem_append_right _ h) (by decide +kernel))
set_option maxRecDepth 20000 in
theorem gL_law_L_ask : GoodIn wsL_law (va_wsS RL 35 yL_ask wsL_ask) := goodIn_app (goodIn_of _ (by decide +kernel)) ggL_law_L_ask
set_option maxRecDepth 20000 in
theorem ggL_law_X6_ask : GoodIn wsL_law wsX6_ask := goodIn_r _ [380, 122, 58, 276, 60, 61, 277, 278, 279, 280, 5, 281, 123, 282, 283, 284, 285, 286, 287, 288, 50, 52, 53, 301, 302, 303, 304, 49, 51, 305, 306, 307, 308, 309, 310, 311, 312, 57, 313, 314, 315, 316, 289, 290, 291, 292, 293, 294, 295, 296, 317, 318, 319, 320, 683, 684, 685, 686, 687, 688, 689, 690, 691, 692, 693, 694, 695, 696, 697, 698, 699, 700, 701, 702, 703, 704, 705, 706, 707, 708, 709, 710] (by decide +kernel) (by decide +kernel)
set_option maxRecDepth 20000 in
theorem gL_law_X6_ask : GoodIn wsL_law (wsV RL 40 RX6 yX6_ask wsX6_ask) := goodIn_app (goodIn_of _ (by decide +kernel)) ggL_law_X6_ask
set_option maxRecDepth 20000 in
theorem ggL_law_X6_thrown : GoodIn wsL_law wsX6_thrown := goodIn_r _ [384, 122, 683, 684, 685, 686, 687, 688, 689, 690, 691, 692, 693, 694, 695, 696, 697, 698, 699, 700, 701, 702, 703, 704, 705, 706, 707, 708, 709, 710] (by decide +kernel) (by decide +kernel)
set_option maxRecDepth 20000 in
theorem gL_law_X6_thrown : GoodIn wsL_law (wsV RL 41 RX6 yX6_thrown wsX6_thrown) := goodIn_app (goodIn_of _ (by decide +kernel)) ggL_law_X6_thrown
set_option maxRecDepth 20000 in
theorem ggL_law_L_remove : GoodIn wsL_law wsL_remove := goodIn_ca (goodIn_r _ [387, 362, 388, 389, 390, 2, 391, 367, 368, 133, 134, 135, 136, 14, 137, 138, 139, 392, 393, 394, 81, 395, 90, 86, 96, 222, 156, 157, 158, 89, 159, 106, 160, 161, 162, 163, 101, 164, 165, 166, 167, 168, 169, 102, 170, 171, 172, 173, 174, 141, 142, 143, 144, 145, 146, 147, 104, 175, 176, 177, 178, 103, 260, 261, 262, 263, 264, 265, 266, 267, 210, 256, 257, 258, 259, 107, 238, 239, 240, 241, 187, 188, 242, 243, 244, 245, 183, 184, 185, 186, 193, 194, 195, 196, 268, 269, 270, 271, 396, 397, 398, 399, 216, 400, 401, 402, 403, 215, 217, 254, 255, 404, 405, 406, 407, 408, 409, 410, 411, 189, 190, 191, 192, 197, 198, 199, 200, 218, 219, 220, 221, 223, 224, 225, 226, 105, 227, 228, 229, 230, 231, 232, 233, 234, 235, 236, 237, 246, 247, 248, 249, 676, 677, 678, 679, 680, 681, 682, 720, 721, 722, 723, 724, 725, 726, 727, 728, 729, 730, 731] (by decide +kernel) (by decide +kernel)) (goodIn_sub (fun _ h => List.mem_append_right _ h) (by decide +kernel))
set_option maxRecDepth 20000 in
theorem gL_law_L_remove : GoodIn wsL_law (va_wsS RL 45 yL_remove wsL_remove) := goodIn_app (goodIn_of _ (by decide +kernel)) ggL_law_L_remove
set_option maxRecDepth 20000 in
theorem ggL_law_X6_remove : GoodIn wsL_law wsX6_remove := goodIn_r _ [415, 122, 276, 277, 51, 55, 56, 49, 59, 50, 278, 279, 280, 5, 281, 123, 282, 283, 284, 285, 286, 287, 288, 52, 53, 301, 302, 303, 304, 305, 306, 307, 308, 309, 310, 311, 312, 57, 313, 314, 315, 316, 289, 290, 291, 292, 293, 294, 295, 296, 317, 318, 319, 320, 416, 417, 418, 419, 355, 356, 357, 338, 339, 340, 341, 342, 343, 344, 345, 346, 347, 348, 349, 350, 62, 351, 352, 353, 354, 683, 684, 685, 686, 687, 688, 689, 690, 691, 692, 693, 694, 695, 696, 697, 698, 699, 700, 701, 702, 703, 704, 705, 706, 707, 708, 709, 710] (by decide +kernel) (by decide +kernel)
set_option maxRecDepth 20000 in
theorem gL_law_X6_remove : GoodIn wsL_law (wsV RL 47 RX6 yX6_remove wsX6_remove) := goodIn_app (goodIn_of _ (by decide +kernel)) ggL_law_X6_remove
set_option maxRecDepth 20000 in
theorem ggL_law_X5_split : GoodIn wsL_law wsX5_split := goodIn_r _ [423, 424, 132, 133, 134, 135, 2, 136, 14, 137, 138, 139, 76, 77, 78, 79, 15, 13, 80, 81, 82, 83, 84, 85, 11, 12, 86, 87, 88, 89, 90, 91, 92, 93, 94, 95, 96, 97, 98, 99, 100, 16, 101, 102, 103, 104, 105, 106, 107, 108, 109, 110, 111, 112, 113, 114, 115, 116, 117, 425, 426, 427, 428, 166, 167, 168, 169, 164, 165, 183, 184, 185, 186, 187, 188, 160, 161, 162, 163, 238, 239, 240, 241, 189, 190, 191, 192, 193, 194, 195, 196, 144, 145, 146, 147, 175, 176, 177, 178, 429, 430, 431, 432, 174, 141, 142, 143, 408, 409, 410, 411, 433, 247, 248, 249, 197, 198, 199, 200, 720, 721, 722, 723, 724, 676, 677, 678, 679, 680, 681, 682, 725, 726, 727, 728, 729, 730, 731, 732, 733] (by decide +kernel) (by decide +kernel)
set_option maxRecDepth 20000 in
theorem gL_law_X5_split : GoodIn wsL_law (wsV RL 48 RX5 yX5_split wsX5_split) := goodIn_app (goodIn_of _ (by decide +kernel)) ggL_law_X5_split
set_option maxRecDepth 20000 in
theorem ggL_law_X6_split : GoodIn wsL_law wsX6_split := goodIn_r _ [437, 122, 123, 49, 63, 55, 50, 52, 53, 56, 51, 59, 278, 279, 280, 5, 281, 282, 283, 284, 124, 125, 126, 127, 438, 439, 440, 441, 683, 684, 685, 686, 687, 688, 689, 690, 691, 692, 693, 694, 695, 696, 697, 698, 699, 700, 701, 702, 703, 704, 705, 706, 707, 708, 709, 710] (by decide +kernel) (by decide +kernel)
set_option maxRecDepth 20000 in
theorem gL_law_X6_split : GoodIn wsL_law (wsV RL 51 RX6 yX6_split wsX6_split) := goodIn_app (goodIn_of _ (by decide +kernel)) ggL_law_X6_split
set_option maxRecDepth 20000 in
theorem ggL_law_X5_join : GoodIn wsL_law wsX5_join := goodIn_r _ [445, 424, 132, 133, 134, 135, 2, 136, 14, 446, 447, 448, 89, 449, 106, 231, 232, 233, 234, 166, 167, 168, 169, 102, 164, 165, 227, 228, 229, 230, 160, 161, 162, 163, 101, 450, 451, 452, 81, 453, 90, 222, 86, 454, 430, 431, 432, 103, 104, 174, 141, 142, 143, 144, 145, 146, 147, 187, 188, 175, 176, 177, 178, 408, 409, 410, 411, 455, 184, 185, 186, 456, 457, 458, 459, 254, 255, 217, 215, 460, 190, 191, 192, 193, 194, 195, 196, 461, 268, 269, 270, 271, 210, 256, 257, 258, 259, 107, 238, 239, 240, 241, 242, 243, 244, 245, 183, 433, 247, 248, 249, 96, 197, 198, 199, 200, 720, 721, 722, 723, 724, 676, 677, 678, 679, 680, 681, 682, 725, 726, 727, 728, 729, 730, 731] (by decide +kernel) (by decide +kernel)
set_option maxRecDepth 20000 in
theorem gL_law_X5_join : GoodIn wsL_law (wsV RL 52 RX5 yX5_join wsX5_join) := goodIn_app (goodIn_of _ (by decide +kernel)) ggL_law_X5_join
set_option maxRecDepth 20000 in
theorem ggL_law_X6_join : GoodIn wsL_law wsX6_join := goodIn_r _ [465, 122, 49, 56, 55, 51, 52, 53, 50, 59, 278, 279, 280, 5, 281, 123, 466, 467, 468, 469, 470, 471, 472, 473, 317, 318, 319, 320, 309, 310, 311, 312, 57, 313, 314, 315, 316, 289, 290, 291, 292, 293, 294, 295, 296, 474, 475, 476, 477, 355, 356, 357, 683, 684, 685, 686, 687, 688, 689, 690, 691, 692, 693, 694, 695, 696, 697, 698, 699, 700, 701, 702, 703, 704, 705, 706, 707, 708, 709, 710] (by decide +kernel) (by decide +kernel)
set_option maxRecDepth 20000 in
theorem gL_law_X6_join : GoodIn wsL_law (wsV RL 56 RX6 yX6_join wsX6_join) := goodIn_app (goodIn_of _ (by decide +kernel)) ggL_law_X6_join
set_option maxRecDepth 20000 in
theorem ggL_law_X5_clear : GoodIn wsL_law wsX5_clear := goodIn_r _ [481, 482, 133, 134, 135, 2, 136, 14, 483, 484, 485, 93, 486, 117, 720, 721, 722, 723, 724, 676, 677, 678, 679, 680, 681, 682, 732, 733] (by decide +kernel) (by decide +kernel)
set_option maxRecDepth 20000 in
theorem gL_law_X5_clear : GoodIn wsL_law (wsV RL 57 RX5 yX5_clear wsX5_clear) := goodIn_app (goodIn_of _ (by decide +kernel)) ggL_law_X5_clear
set_option maxRecDepth 20000 in
theorem ggL_law_X6_clear : GoodIn wsL_law wsX6_clear := goodIn_r _ [490, 122, 60, 278, 279, 280, 5, 281, 123, 683, 684, 685, 686, 687, 688, 689, 690, 691, 692, 693, 694, 695, 696, 697, 698, 699, 700, 701, 702, 703, 704, 705, 706, 707, 708, 709, 710] (by decide +kernel) (by decide +kernel)
set_option maxRecDepth 20000 in
theorem gL_law_X6_clear : GoodIn wsL_law (wsV RL 60 RX6 yX6_clear wsX6_clear) := goodIn_app (goodIn_of _ (by decide +kernel)) ggL_law_X6_clear
set_option maxRecDepth 20000 in
theorem ggL_law_L_look : GoodIn wsL_law wsL_look := goodIn_ca (goodIn_r _ [493, 362, 494, 495, 496, 2, 497, 367, 368, 132, 133, 134, 135, 136, 14, 140, 141, 142, 89, 143, 144, 145, 146, 147, 104, 498, 171, 172, 173, 174, 175, 176, 177, 178, 103, 164, 165, 499, 500, 161, 162, 163, 101, 501, 167, 168, 169, 102, 502, 720, 721, 722, 723, 724, 676, 677, 678, 679, 680, 681, 682, 725, 726, 727, 728, 729, 730, 731] (by decide +kernel) (by decide +kernel)) (goodIn_sub (fun _ h => List.mem_append_right _ h) (by decide +kernel))
set_option maxRecDepth 20000 in
theorem gL_law_L_look : GoodIn wsL_law (va_wsS RL 61 yL_look wsL_look) := goodIn_app (goodIn_of _ (by decide +kernel)) ggL_law_L_look
set_option maxRecDepth 20000 in
theorem ggL_law_X6_look : GoodIn wsL_law wsX6_look := goodIn_r _ [506, 55, 122, 51, 52, 53, 278, 279, 280, 5, 281, 123, 282, 283, 284, 325, 326, 327, 328, 338, 339, 340, 341, 683, 684, 685, 686, 687, 688, 689, 690, 691, 692, 693, 694, 695, 696, 697, 698, 699, 700, 701, 702, 703, 704, 705, 706, 707, 708, 709, 710] (by decide +kernel) (by decide +kernel)
set_option maxRecDepth 20000 in
theorem gL_law_X6_look : GoodIn wsL_law (wsV RL 64 RX6 yX6_look wsX6_look) := goodIn_app (goodIn_of _ (by decide +kernel)) ggL_law_X6_look
set_option maxRecDepth 20000 in
theorem ggL_law_X5_count : GoodIn wsL_law wsX5_count := goodIn_r _ [510, 424, 132, 511, 512, 513, 482, 514, 515, 133, 134, 135, 2, 136, 14, 516, 198, 199, 89, 200, 106, 144, 145, 146, 147, 104, 517, 518, 519, 520, 521, 153, 154, 155, 522, 171, 172, 173, 174, 141, 142, 143, 175, 176, 177, 178, 103, 164, 165, 523, 524, 525, 526, 720, 721, 722, 723, 724, 725, 726, 727, 728, 729, 730, 731, 732, 733, 676, 677, 678, 679, 680, 681, 682] (by decide +kernel) (by decide +kernel)
set_option maxRecDepth 20000 in
theorem gL_law_X5_count : GoodIn wsL_law (wsV RL 65 RX5 yX5_count wsX5_count) := goodIn_app (goodIn_of _ (by decide +kernel)) ggL_law_X5_count
set_option maxRecDepth 20000 in
theorem ggL_law_X6_count : GoodIn wsL_law wsX6_count := goodIn_r _ [530, 122, 49, 56, 50, 57, 58, 60, 59, 278, 279, 280, 5, 281, 123, 531, 532, 533, 534, 55, 325, 326, 327, 328, 51, 535, 536, 537, 538, 338, 339, 340, 341, 52, 53, 683, 684, 685, 686, 687, 688, 689, 690, 691, 692, 693, 694, 695, 696, 697, 698, 699, 700, 701, 702, 703, 704, 705, 706, 707, 708, 709, 710] (by decide +kernel) (by decide +kernel)
set_option maxRecDepth 20000 in
theorem gL_law_X6_count : GoodIn wsL_law (wsV RL 68 RX6 yX6_count wsX6_count) := goodIn_app (goodIn_of _ (by decide +kernel)) ggL_law_X6_count
set_option maxRecDepth 20000 in
theorem ggL_law_X5_best : GoodIn wsL_law wsX5_best := goodIn_r _ [542, 27, 132, 482, 543, 544, 133, 134, 135, 2, 136, 14, 545, 546, 547, 26, 548, 41, 43, 38, 42, 44, 549, 550, 551, 552, 39, 553, 554, 109, 110, 111, 555, 556, 557, 93, 558, 116, 164, 165, 187, 188, 559, 560, 561, 562, 40, 563, 141, 142, 89, 143, 144, 145, 146, 147, 104, 564, 565, 566, 567, 568, 569, 570, 571, 572, 573, 574, 575, 676, 677, 678, 679, 680, 681, 682, 720, 721, 722, 723, 724, 713, 714, 715, 716, 717, 718, 719, 732, 733, 725, 726, 727, 728, 729, 730, 731] (by decide +kernel) (by decide +kernel)
set_option maxRecDepth 20000 in
theorem gL_law_X5_best : GoodIn wsL_law (wsV RL 69 RX5 yX5_best wsX5_best) := goodIn_app (goodIn_of _ (by decide +kernel)) ggL_law_X5_best
set_option maxRecDepth 20000 in
theorem ggL_law_X6_best : GoodIn wsL_law wsX6_best := goodIn_r _ [579, 122, 55, 64, 60, 61, 62, 65, 66, 278, 279, 280, 5, 281, 123, 580, 581, 582, 583, 683, 684, 685, 686, 687, 688, 689, 690, 691, 692, 693, 694, 695, 696, 697, 698, 699, 700, 701, 702, 703, 704, 705, 706, 707, 708, 709, 710] (by decide +kernel) (by decide +kernel)
set_option maxRecDepth 20000 in
theorem gL_law_X6_best : GoodIn wsL_law (wsV RL 72 RX6 yX6_best wsX6_best) := goodIn_app (goodIn_of _ (by decide +kernel)) ggL_law_X6_best
set_option maxRecDepth 20000 in
theorem ggL_law_X5_interleave : GoodIn wsL_law wsX5_interleave := goodIn_r _ [587, 482, 19, 133, 134, 135, 2, 136, 14, 588, 589, 590, 93, 591, 592, 109, 110, 111, 593, 594, 595, 596, 117, 597, 556, 557, 558, 116, 164, 165, 187, 188, 720, 721, 722, 723, 724, 676, 677, 678, 679, 680, 681, 682, 732, 733] (by decide +kernel) (by decide +kernel)
set_option maxRecDepth 20000 in
theorem gL_law_X5_interleave : GoodIn wsL_law (wsV RL 73 RX5 yX5_interleave wsX5_interleave) := goodIn_app (goodIn_of _ (by decide +kernel)) ggL_law_X5_interleave
set_option maxRecDepth 20000 in
theorem ggL_law_X6_interleave : GoodIn wsL_law wsX6_interleave := goodIn_r _ [601, 122, 60, 61, 278, 279, 280, 5, 281, 123, 683, 684, 685, 686, 687, 688, 689, 690, 691, 692, 693, 694, 695, 696, 697, 698, 699, 700, 701, 702, 703, 704, 705, 706, 707, 708, 709, 710] (by decide +kernel) (by decide +kernel)
set_option maxRecDepth 20000 in
theorem gL_law_X6_interleave : GoodIn wsL_law (wsV RL 76 RX6 yX6_interleave wsX6_interleave) := goodIn_app (goodIn_of _ (by decide +kernel)) ggL_law_X6_interleave
set_option maxRecDepth 20000 in
theorem ggL_law_X5_sweep : GoodIn wsL_law wsX5_sweep := goodIn_r _ [605, 482, 19, 133, 134, 135, 2, 136, 14, 606, 607, 608, 93, 609, 117, 592, 109, 110, 111, 597, 556, 557, 558, 116, 164, 165, 610, 611, 612, 187, 188, 720, 721, 722, 723, 724, 676, 677, 678, 679, 680, 681, 682, 732, 733] (by decide +kernel) (by decide +kernel)
set_option maxRecDepth 20000 in
theorem gL_law_X5_sweep : GoodIn wsL_law (wsV RL 77 RX5 yX5_sweep wsX5_sweep) := goodIn_app (goodIn_of _ (by decide +kernel)) ggL_law_X5_sweep
set_option maxRecDepth 20000 in
theorem ggL_law_X6_sweep : GoodIn wsL_law wsX6_sweep := goodIn_r _ [616, 122, 67, 60, 61, 68, 278, 279, 280, 5, 281, 123, 617, 618, 619, 620, 683, 684, 685, 686, 687, 688, 689, 690, 691, 692, 693, 694, 695, 696, 697, 698, 699, 700, 701, 702, 703, 704, 705, 706, 707, 708, 709, 710] (by decide +kernel) (by decide +kernel)
set_option maxRecDepth 20000 in
theorem gL_law_X6_sweep : GoodIn wsL_law (wsV RL 80 RX6 yX6_sweep wsX6_sweep) := goodIn_app (goodIn_of _ (by decide +kernel)) ggL_law_X6_sweep
set_option maxRecDepth 20000 in
theorem ggL_law_X5_pages : GoodIn wsL_law wsX5_pages := goodIn_r _ [624, 132, 23, 133, 134, 135, 2, 136, 14, 140, 141, 142, 89, 143, 144, 145, 146, 147, 104, 625, 626, 627, 22, 628, 629, 630, 631, 632, 633, 33, 32, 634, 635, 636, 637, 187, 188, 164, 165, 638, 161, 162, 163, 101, 639, 167, 168, 169, 102, 640, 641, 642, 643, 644, 645, 646, 647, 648, 176, 177, 178, 103, 720, 721, 722, 723, 724, 676, 677, 678, 679, 680, 681, 682, 725, 726, 727, 728, 729, 730, 731, 711, 712] (by decide +kernel) (by decide +kernel)
set_option maxRecDepth 20000 in
theorem gL_law_X5_pages : GoodIn wsL_law (wsV RL 81 RX5 yX5_pages wsX5_pages) := goodIn_app (goodIn_of _ (by decide +kernel)) ggL_law_X5_pages
set_option maxRecDepth 20000 in
theorem ggL_law_X6_pages : GoodIn wsL_law wsX6_pages := goodIn_r _ [652, 122, 55, 69, 50, 52, 53, 278, 279, 280, 5, 281, 123, 282, 283, 284, 653, 654, 655, 656, 70, 683, 684, 685, 686, 687, 688, 689, 690, 691, 692, 693, 694, 695, 696, 697, 698, 699, 700, 701, 702, 703, 704, 705, 706, 707, 708, 709, 710] (by decide +kernel) (by decide +kernel)
set_option maxRecDepth 20000 in
theorem gL_law_X6_pages : GoodIn wsL_law (wsV RL 84 RX6 yX6_pages wsX6_pages) := goodIn_app (goodIn_of _ (by decide +kernel)) ggL_law_X6_pages
set_option maxRecDepth 20000 in
theorem ggL_law_X5_keep : GoodIn wsL_law wsX5_keep := goodIn_r _ [660, 18, 17, 132, 133, 134, 135, 2, 136, 14, 498, 171, 172, 89, 173, 174, 141, 142, 143, 144, 145, 146, 147, 104, 175, 176, 177, 178, 103, 164, 165, 661, 187, 188, 676, 677, 678, 679, 680, 681, 682, 720, 721, 722, 723, 724, 725, 726, 727, 728, 729, 730, 731] (by decide +kernel) (by decide +kernel)
set_option maxRecDepth 20000 in
theorem gL_law_X5_keep : GoodIn wsL_law (wsV RL 85 RX5 yX5_keep wsX5_keep) := goodIn_app (goodIn_of _ (by decide +kernel)) ggL_law_X5_keep
set_option maxRecDepth 20000 in
theorem ggL_law_X6_keep : GoodIn wsL_law wsX6_keep := goodIn_r _ [665, 122, 666, 71, 55, 278, 279, 280, 5, 281, 123, 325, 326, 327, 328, 51, 683, 684, 685, 686, 687, 688, 689, 690, 691, 692, 693, 694, 695, 696, 697, 698, 699, 700, 701, 702, 703, 704, 705, 706, 707, 708, 709, 710] (by decide +kernel) (by decide +kernel)
set_option maxRecDepth 20000 in
theorem gL_law_X6_keep : GoodIn wsL_law (wsV RL 88 RX6 yX6_keep wsX6_keep) := goodIn_app (goodIn_of _ (by decide +kernel)) ggL_law_X6_keep
set_option maxRecDepth 20000 in
theorem ggL_law_X5_kept : GoodIn wsL_law wsX5_kept := goodIn_r _ [670, 18, 17, 137, 138, 2, 139, 671, 164, 165, 676, 677, 678, 679, 680, 681, 682] (by decide +kernel) (by decide +kernel)
set_option maxRecDepth 20000 in
theorem gL_law_X5_kept : GoodIn wsL_law (wsV RL 89 RX5 yX5_kept wsX5_kept) := goodIn_app (goodIn_of _ (by decide +kernel)) ggL_law_X5_kept
set_option maxRecDepth 20000 in
theorem ggL_law_X6_kept : GoodIn wsL_law wsX6_kept := goodIn_r _ [675, 122, 666, 71, 282, 283, 5, 284, 683, 684, 685, 686, 687, 688, 689, 690, 691, 692, 693, 694, 695, 696, 697, 698, 699, 700, 701, 702, 703, 704, 705, 706, 707, 708, 709, 710] (by decide +kernel) (by decide +kernel)
set_option maxRecDepth 20000 in
theorem gL_law_X6_kept : GoodIn wsL_law (wsV RL 92 RX6 yX6_kept wsX6_kept) := goodIn_app (goodIn_of _ (by decide +kernel)) ggL_law_X6_kept
theorem dL_law_0 : decode cL_law 0 = .ok (.new 8, 3) := by decide +kernel
theorem dL_law_3 : decode cL_law 3 = .ok (.dup, 1) := by decide +kernel
theorem dL_law_4 : decode cL_law 4 = .ok (.invokespecial 22, 3) := by decide +kernel
theorem dL_law_7 : decode cL_law 7 = .ok (.astore_n 1, 1) := by decide +kernel
theorem dL_law_8 : decode cL_law 8 = .ok (.new 23, 3) := by decide +kernel
theorem dL_law_11 : decode cL_law 11 = .ok (.dup, 1) := by decide +kernel
theorem dL_law_12 : decode cL_law 12 = .ok (.invokespecial 25, 3) := by decide +kernel
theorem dL_law_15 : decode cL_law 15 = .ok (.astore_n 2, 1) := by decide +kernel
theorem dL_law_16 : decode cL_law 16 = .ok (.iconst 1, 1) := by decide +kernel
theorem dL_law_17 : decode cL_law 17 = .ok (.newarray .long, 2) := by decide +kernel
theorem dL_law_19 : decode cL_law 19 = .ok (.astore_n 3, 1) := by decide +kernel
theorem dL_law_20 : decode cL_law 20 = .ok (.iconst 0, 1) := by decide +kernel
theorem dL_law_21 : decode cL_law 21 = .ok (.istore 4, 2) := by decide +kernel
theorem dL_law_23 : decode cL_law 23 = .ok (.iload 4, 2) := by decide +kernel
theorem dL_law_25 : decode cL_law 25 = .ok (.aload_n 0, 1) := by decide +kernel
theorem dL_law_26 : decode cL_law 26 = .ok (.arraylength, 1) := by decide +kernel
theorem dL_law_27 : decode cL_law 27 = .ok (.iconst 4, 1) := by decide +kernel
theorem dL_law_28 : decode cL_law 28 = .ok (.isub, 1) := by decide +kernel
theorem dL_law_29 : decode cL_law 29 = .ok (.if_icmp .gt 701, 3) := by decide +kernel
theorem dL_law_32 : decode cL_law 32 = .ok (.aload_n 0, 1) := by decide +kernel
theorem dL_law_33 : decode cL_law 33 = .ok (.iload 4, 2) := by decide +kernel
theorem dL_law_35 : decode cL_law 35 = .ok (.iaload, 1) := by decide +kernel
theorem dL_law_36 : decode cL_law 36 = .ok (.bipush 15, 2) := by decide +kernel
theorem dL_law_38 : decode cL_law 38 = .ok (.iand, 1) := by decide +kernel
theorem dL_law_39 : decode cL_law 39 = .ok (.tableswitch 685 0 14 #[73, 98, 135, 203, 271, 308, 345, 370, 450, 487, 524, 549, 574, 623, 648], 73) := by decide +kernel
theorem dL_law_112 : decode cL_law 112 = .ok (.aload_n 1, 1) := by decide +kernel
theorem dL_law_113 : decode cL_law 113 = .ok (.aload_n 0, 1) := by decide +kernel
theorem dL_law_114 : decode cL_law 114 = .ok (.iload 4, 2) := by decide +kernel
theorem dL_law_116 : decode cL_law 116 = .ok (.iconst 1, 1) := by decide +kernel
theorem dL_law_117 : decode cL_law 117 = .ok (.iadd, 1) := by decide +kernel
theorem dL_law_118 : decode cL_law 118 = .ok (.iaload, 1) := by decide +kernel
theorem dL_law_119 : decode cL_law 119 = .ok (.invokevirtual 26, 3) := by decide +kernel
theorem dL_law_122 : decode cL_law 122 = .ok (.aload_n 2, 1) := by decide +kernel
theorem dL_law_123 : decode cL_law 123 = .ok (.aload_n 0, 1) := by decide +kernel
theorem dL_law_124 : decode cL_law 124 = .ok (.iload 4, 2) := by decide +kernel
theorem dL_law_126 : decode cL_law 126 = .ok (.iconst 1, 1) := by decide +kernel
theorem dL_law_127 : decode cL_law 127 = .ok (.iadd, 1) := by decide +kernel
theorem dL_law_128 : decode cL_law 128 = .ok (.iaload, 1) := by decide +kernel
theorem dL_law_129 : decode cL_law 129 = .ok (.invokevirtual 30, 3) := by decide +kernel
theorem dL_law_132 : decode cL_law 132 = .ok (.if_icmp .eq 592, 3) := by decide +kernel
theorem dL_law_135 : decode cL_law 135 = .ok (.iconst 0, 1) := by decide +kernel
theorem dL_law_136 : decode cL_law 136 = .ok (.ireturn, 1) := by decide +kernel
theorem dL_law_137 : decode cL_law 137 = .ok (.aload_n 1, 1) := by decide +kernel
theorem dL_law_138 : decode cL_law 138 = .ok (.aload_n 0, 1) := by decide +kernel
theorem dL_law_139 : decode cL_law 139 = .ok (.iload 4, 2) := by decide +kernel
theorem dL_law_141 : decode cL_law 141 = .ok (.iconst 1, 1) := by decide +kernel
theorem dL_law_142 : decode cL_law 142 = .ok (.iadd, 1) := by decide +kernel
theorem dL_law_143 : decode cL_law 143 = .ok (.iaload, 1) := by decide +kernel
theorem dL_law_144 : decode cL_law 144 = .ok (.aload_n 0, 1) := by decide +kernel
theorem dL_law_145 : decode cL_law 145 = .ok (.iload 4, 2) := by decide +kernel
theorem dL_law_147 : decode cL_law 147 = .ok (.iconst 2, 1) := by decide +kernel
theorem dL_law_148 : decode cL_law 148 = .ok (.iadd, 1) := by decide +kernel
theorem dL_law_149 : decode cL_law 149 = .ok (.iaload, 1) := by decide +kernel
theorem dL_law_150 : decode cL_law 150 = .ok (.invokevirtual 31, 3) := by decide +kernel
theorem dL_law_153 : decode cL_law 153 = .ok (.aload_n 2, 1) := by decide +kernel
theorem dL_law_154 : decode cL_law 154 = .ok (.aload_n 0, 1) := by decide +kernel
theorem dL_law_155 : decode cL_law 155 = .ok (.iload 4, 2) := by decide +kernel
theorem dL_law_157 : decode cL_law 157 = .ok (.iconst 1, 1) := by decide +kernel
theorem dL_law_158 : decode cL_law 158 = .ok (.iadd, 1) := by decide +kernel
theorem dL_law_159 : decode cL_law 159 = .ok (.iaload, 1) := by decide +kernel
theorem dL_law_160 : decode cL_law 160 = .ok (.aload_n 0, 1) := by decide +kernel
theorem dL_law_161 : decode cL_law 161 = .ok (.iload 4, 2) := by decide +kernel
theorem dL_law_163 : decode cL_law 163 = .ok (.iconst 2, 1) := by decide +kernel
theorem dL_law_164 : decode cL_law 164 = .ok (.iadd, 1) := by decide +kernel
theorem dL_law_165 : decode cL_law 165 = .ok (.iaload, 1) := by decide +kernel
theorem dL_law_166 : decode cL_law 166 = .ok (.invokevirtual 34, 3) := by decide +kernel
theorem dL_law_169 : decode cL_law 169 = .ok (.if_icmp .eq 555, 3) := by decide +kernel
theorem dL_law_172 : decode cL_law 172 = .ok (.iconst 0, 1) := by decide +kernel
theorem dL_law_173 : decode cL_law 173 = .ok (.ireturn, 1) := by decide +kernel
theorem dL_law_174 : decode cL_law 174 = .ok (.aload_n 1, 1) := by decide +kernel
theorem dL_law_175 : decode cL_law 175 = .ok (.aload_n 0, 1) := by decide +kernel
theorem dL_law_176 : decode cL_law 176 = .ok (.iload 4, 2) := by decide +kernel
theorem dL_law_178 : decode cL_law 178 = .ok (.iconst 1, 1) := by decide +kernel
theorem dL_law_179 : decode cL_law 179 = .ok (.iadd, 1) := by decide +kernel
theorem dL_law_180 : decode cL_law 180 = .ok (.iaload, 1) := by decide +kernel
theorem dL_law_181 : decode cL_law 181 = .ok (.aload_n 0, 1) := by decide +kernel
theorem dL_law_182 : decode cL_law 182 = .ok (.iload 4, 2) := by decide +kernel
theorem dL_law_184 : decode cL_law 184 = .ok (.iconst 2, 1) := by decide +kernel
theorem dL_law_185 : decode cL_law 185 = .ok (.iadd, 1) := by decide +kernel
theorem dL_law_186 : decode cL_law 186 = .ok (.iaload, 1) := by decide +kernel
theorem dL_law_187 : decode cL_law 187 = .ok (.aload_n 3, 1) := by decide +kernel
theorem dL_law_188 : decode cL_law 188 = .ok (.invokestatic 35, 3) := by decide +kernel
theorem dL_law_191 : decode cL_law 191 = .ok (.istore 5, 2) := by decide +kernel
theorem dL_law_193 : decode cL_law 193 = .ok (.aload_n 2, 1) := by decide +kernel
theorem dL_law_194 : decode cL_law 194 = .ok (.aload_n 0, 1) := by decide +kernel
theorem dL_law_195 : decode cL_law 195 = .ok (.iload 4, 2) := by decide +kernel
theorem dL_law_197 : decode cL_law 197 = .ok (.iconst 1, 1) := by decide +kernel
theorem dL_law_198 : decode cL_law 198 = .ok (.iadd, 1) := by decide +kernel
theorem dL_law_199 : decode cL_law 199 = .ok (.iaload, 1) := by decide +kernel
theorem dL_law_200 : decode cL_law 200 = .ok (.aload_n 0, 1) := by decide +kernel
theorem dL_law_201 : decode cL_law 201 = .ok (.iload 4, 2) := by decide +kernel
theorem dL_law_203 : decode cL_law 203 = .ok (.iconst 2, 1) := by decide +kernel
theorem dL_law_204 : decode cL_law 204 = .ok (.iadd, 1) := by decide +kernel
theorem dL_law_205 : decode cL_law 205 = .ok (.iaload, 1) := by decide +kernel
theorem dL_law_206 : decode cL_law 206 = .ok (.invokevirtual 40, 3) := by decide +kernel
theorem dL_law_209 : decode cL_law 209 = .ok (.istore 6, 2) := by decide +kernel
theorem dL_law_211 : decode cL_law 211 = .ok (.aload_n 2, 1) := by decide +kernel
theorem dL_law_212 : decode cL_law 212 = .ok (.invokevirtual 41, 3) := by decide +kernel
theorem dL_law_215 : decode cL_law 215 = .ok (.iload 5, 2) := by decide +kernel
theorem dL_law_217 : decode cL_law 217 = .ok (.if_icmp .eq 5, 3) := by decide +kernel
theorem dL_law_220 : decode cL_law 220 = .ok (.iconst 0, 1) := by decide +kernel
theorem dL_law_221 : decode cL_law 221 = .ok (.ireturn, 1) := by decide +kernel
theorem dL_law_222 : decode cL_law 222 = .ok (.iload 5, 2) := by decide +kernel
theorem dL_law_224 : decode cL_law 224 = .ok (.ifCond .ne 15, 3) := by decide +kernel
theorem dL_law_227 : decode cL_law 227 = .ok (.aload_n 3, 1) := by decide +kernel
theorem dL_law_228 : decode cL_law 228 = .ok (.iconst 0, 1) := by decide +kernel
theorem dL_law_229 : decode cL_law 229 = .ok (.laload, 1) := by decide +kernel
theorem dL_law_230 : decode cL_law 230 = .ok (.iload 6, 2) := by decide +kernel
theorem dL_law_232 : decode cL_law 232 = .ok (.i2l, 1) := by decide +kernel
theorem dL_law_233 : decode cL_law 233 = .ok (.lcmp, 1) := by decide +kernel
theorem dL_law_234 : decode cL_law 234 = .ok (.ifCond .eq 5, 3) := by decide +kernel
theorem dL_law_237 : decode cL_law 237 = .ok (.iconst 0, 1) := by decide +kernel
theorem dL_law_238 : decode cL_law 238 = .ok (.ireturn, 1) := by decide +kernel
theorem dL_law_239 : decode cL_law 239 = .ok (.goto 485, 3) := by decide +kernel
theorem dL_law_242 : decode cL_law 242 = .ok (.aload_n 1, 1) := by decide +kernel
theorem dL_law_243 : decode cL_law 243 = .ok (.aload_n 0, 1) := by decide +kernel
theorem dL_law_244 : decode cL_law 244 = .ok (.iload 4, 2) := by decide +kernel
theorem dL_law_246 : decode cL_law 246 = .ok (.iconst 1, 1) := by decide +kernel
theorem dL_law_247 : decode cL_law 247 = .ok (.iadd, 1) := by decide +kernel
theorem dL_law_248 : decode cL_law 248 = .ok (.iaload, 1) := by decide +kernel
theorem dL_law_249 : decode cL_law 249 = .ok (.aload_n 0, 1) := by decide +kernel
theorem dL_law_250 : decode cL_law 250 = .ok (.iload 4, 2) := by decide +kernel
theorem dL_law_252 : decode cL_law 252 = .ok (.iconst 2, 1) := by decide +kernel
theorem dL_law_253 : decode cL_law 253 = .ok (.iadd, 1) := by decide +kernel
theorem dL_law_254 : decode cL_law 254 = .ok (.iaload, 1) := by decide +kernel
theorem dL_law_255 : decode cL_law 255 = .ok (.aload_n 3, 1) := by decide +kernel
theorem dL_law_256 : decode cL_law 256 = .ok (.invokestatic 45, 3) := by decide +kernel
theorem dL_law_259 : decode cL_law 259 = .ok (.istore 5, 2) := by decide +kernel
theorem dL_law_261 : decode cL_law 261 = .ok (.aload_n 2, 1) := by decide +kernel
theorem dL_law_262 : decode cL_law 262 = .ok (.aload_n 0, 1) := by decide +kernel
theorem dL_law_263 : decode cL_law 263 = .ok (.iload 4, 2) := by decide +kernel
theorem dL_law_265 : decode cL_law 265 = .ok (.iconst 1, 1) := by decide +kernel
theorem dL_law_266 : decode cL_law 266 = .ok (.iadd, 1) := by decide +kernel
theorem dL_law_267 : decode cL_law 267 = .ok (.iaload, 1) := by decide +kernel
theorem dL_law_268 : decode cL_law 268 = .ok (.aload_n 0, 1) := by decide +kernel
theorem dL_law_269 : decode cL_law 269 = .ok (.iload 4, 2) := by decide +kernel
theorem dL_law_271 : decode cL_law 271 = .ok (.iconst 2, 1) := by decide +kernel
theorem dL_law_272 : decode cL_law 272 = .ok (.iadd, 1) := by decide +kernel
theorem dL_law_273 : decode cL_law 273 = .ok (.iaload, 1) := by decide +kernel
theorem dL_law_274 : decode cL_law 274 = .ok (.invokevirtual 47, 3) := by decide +kernel
theorem dL_law_277 : decode cL_law 277 = .ok (.istore 6, 2) := by decide +kernel
theorem dL_law_279 : decode cL_law 279 = .ok (.aload_n 2, 1) := by decide +kernel
theorem dL_law_280 : decode cL_law 280 = .ok (.invokevirtual 41, 3) := by decide +kernel
theorem dL_law_283 : decode cL_law 283 = .ok (.iload 5, 2) := by decide +kernel
theorem dL_law_285 : decode cL_law 285 = .ok (.if_icmp .eq 5, 3) := by decide +kernel
theorem dL_law_288 : decode cL_law 288 = .ok (.iconst 0, 1) := by decide +kernel
theorem dL_law_289 : decode cL_law 289 = .ok (.ireturn, 1) := by decide +kernel
theorem dL_law_290 : decode cL_law 290 = .ok (.iload 5, 2) := by decide +kernel
theorem dL_law_292 : decode cL_law 292 = .ok (.ifCond .ne 15, 3) := by decide +kernel
theorem dL_law_295 : decode cL_law 295 = .ok (.aload_n 3, 1) := by decide +kernel
theorem dL_law_296 : decode cL_law 296 = .ok (.iconst 0, 1) := by decide +kernel
theorem dL_law_297 : decode cL_law 297 = .ok (.laload, 1) := by decide +kernel
theorem dL_law_298 : decode cL_law 298 = .ok (.iload 6, 2) := by decide +kernel
theorem dL_law_300 : decode cL_law 300 = .ok (.i2l, 1) := by decide +kernel
theorem dL_law_301 : decode cL_law 301 = .ok (.lcmp, 1) := by decide +kernel
theorem dL_law_302 : decode cL_law 302 = .ok (.ifCond .eq 5, 3) := by decide +kernel
theorem dL_law_305 : decode cL_law 305 = .ok (.iconst 0, 1) := by decide +kernel
theorem dL_law_306 : decode cL_law 306 = .ok (.ireturn, 1) := by decide +kernel
theorem dL_law_307 : decode cL_law 307 = .ok (.goto 417, 3) := by decide +kernel
theorem dL_law_310 : decode cL_law 310 = .ok (.aload_n 1, 1) := by decide +kernel
theorem dL_law_311 : decode cL_law 311 = .ok (.aload_n 0, 1) := by decide +kernel
theorem dL_law_312 : decode cL_law 312 = .ok (.iload 4, 2) := by decide +kernel
theorem dL_law_314 : decode cL_law 314 = .ok (.iconst 1, 1) := by decide +kernel
theorem dL_law_315 : decode cL_law 315 = .ok (.iadd, 1) := by decide +kernel
theorem dL_law_316 : decode cL_law 316 = .ok (.iaload, 1) := by decide +kernel
theorem dL_law_317 : decode cL_law 317 = .ok (.aload_n 0, 1) := by decide +kernel
theorem dL_law_318 : decode cL_law 318 = .ok (.iload 4, 2) := by decide +kernel
theorem dL_law_320 : decode cL_law 320 = .ok (.iconst 2, 1) := by decide +kernel
theorem dL_law_321 : decode cL_law 321 = .ok (.iadd, 1) := by decide +kernel
theorem dL_law_322 : decode cL_law 322 = .ok (.iaload, 1) := by decide +kernel
theorem dL_law_323 : decode cL_law 323 = .ok (.invokevirtual 48, 3) := by decide +kernel
theorem dL_law_326 : decode cL_law 326 = .ok (.aload_n 2, 1) := by decide +kernel
theorem dL_law_327 : decode cL_law 327 = .ok (.aload_n 0, 1) := by decide +kernel
theorem dL_law_328 : decode cL_law 328 = .ok (.iload 4, 2) := by decide +kernel
theorem dL_law_330 : decode cL_law 330 = .ok (.iconst 1, 1) := by decide +kernel
theorem dL_law_331 : decode cL_law 331 = .ok (.iadd, 1) := by decide +kernel
theorem dL_law_332 : decode cL_law 332 = .ok (.iaload, 1) := by decide +kernel
theorem dL_law_333 : decode cL_law 333 = .ok (.aload_n 0, 1) := by decide +kernel
theorem dL_law_334 : decode cL_law 334 = .ok (.iload 4, 2) := by decide +kernel
theorem dL_law_336 : decode cL_law 336 = .ok (.iconst 2, 1) := by decide +kernel
theorem dL_law_337 : decode cL_law 337 = .ok (.iadd, 1) := by decide +kernel
theorem dL_law_338 : decode cL_law 338 = .ok (.iaload, 1) := by decide +kernel
theorem dL_law_339 : decode cL_law 339 = .ok (.invokevirtual 51, 3) := by decide +kernel
theorem dL_law_342 : decode cL_law 342 = .ok (.if_icmp .eq 382, 3) := by decide +kernel
theorem dL_law_345 : decode cL_law 345 = .ok (.iconst 0, 1) := by decide +kernel
theorem dL_law_346 : decode cL_law 346 = .ok (.ireturn, 1) := by decide +kernel
theorem dL_law_347 : decode cL_law 347 = .ok (.aload_n 1, 1) := by decide +kernel
theorem dL_law_348 : decode cL_law 348 = .ok (.aload_n 0, 1) := by decide +kernel
theorem dL_law_349 : decode cL_law 349 = .ok (.iload 4, 2) := by decide +kernel
theorem dL_law_351 : decode cL_law 351 = .ok (.iconst 1, 1) := by decide +kernel
theorem dL_law_352 : decode cL_law 352 = .ok (.iadd, 1) := by decide +kernel
theorem dL_law_353 : decode cL_law 353 = .ok (.iaload, 1) := by decide +kernel
theorem dL_law_354 : decode cL_law 354 = .ok (.aload_n 0, 1) := by decide +kernel
theorem dL_law_355 : decode cL_law 355 = .ok (.iload 4, 2) := by decide +kernel
theorem dL_law_357 : decode cL_law 357 = .ok (.iconst 2, 1) := by decide +kernel
theorem dL_law_358 : decode cL_law 358 = .ok (.iadd, 1) := by decide +kernel
theorem dL_law_359 : decode cL_law 359 = .ok (.iaload, 1) := by decide +kernel
theorem dL_law_360 : decode cL_law 360 = .ok (.invokevirtual 52, 3) := by decide +kernel
theorem dL_law_363 : decode cL_law 363 = .ok (.aload_n 2, 1) := by decide +kernel
theorem dL_law_364 : decode cL_law 364 = .ok (.aload_n 0, 1) := by decide +kernel
theorem dL_law_365 : decode cL_law 365 = .ok (.iload 4, 2) := by decide +kernel
theorem dL_law_367 : decode cL_law 367 = .ok (.iconst 1, 1) := by decide +kernel
theorem dL_law_368 : decode cL_law 368 = .ok (.iadd, 1) := by decide +kernel
theorem dL_law_369 : decode cL_law 369 = .ok (.iaload, 1) := by decide +kernel
theorem dL_law_370 : decode cL_law 370 = .ok (.aload_n 0, 1) := by decide +kernel
theorem dL_law_371 : decode cL_law 371 = .ok (.iload 4, 2) := by decide +kernel
theorem dL_law_373 : decode cL_law 373 = .ok (.iconst 2, 1) := by decide +kernel
theorem dL_law_374 : decode cL_law 374 = .ok (.iadd, 1) := by decide +kernel
theorem dL_law_375 : decode cL_law 375 = .ok (.iaload, 1) := by decide +kernel
theorem dL_law_376 : decode cL_law 376 = .ok (.invokevirtual 56, 3) := by decide +kernel
theorem dL_law_379 : decode cL_law 379 = .ok (.if_icmp .eq 345, 3) := by decide +kernel
theorem dL_law_382 : decode cL_law 382 = .ok (.iconst 0, 1) := by decide +kernel
theorem dL_law_383 : decode cL_law 383 = .ok (.ireturn, 1) := by decide +kernel
theorem dL_law_384 : decode cL_law 384 = .ok (.aload_n 1, 1) := by decide +kernel
theorem dL_law_385 : decode cL_law 385 = .ok (.aload_n 0, 1) := by decide +kernel
theorem dL_law_386 : decode cL_law 386 = .ok (.iload 4, 2) := by decide +kernel
theorem dL_law_388 : decode cL_law 388 = .ok (.iconst 1, 1) := by decide +kernel
theorem dL_law_389 : decode cL_law 389 = .ok (.iadd, 1) := by decide +kernel
theorem dL_law_390 : decode cL_law 390 = .ok (.iaload, 1) := by decide +kernel
theorem dL_law_391 : decode cL_law 391 = .ok (.invokevirtual 57, 3) := by decide +kernel
theorem dL_law_394 : decode cL_law 394 = .ok (.aload_n 2, 1) := by decide +kernel
theorem dL_law_395 : decode cL_law 395 = .ok (.aload_n 0, 1) := by decide +kernel
theorem dL_law_396 : decode cL_law 396 = .ok (.iload 4, 2) := by decide +kernel
theorem dL_law_398 : decode cL_law 398 = .ok (.iconst 1, 1) := by decide +kernel
theorem dL_law_399 : decode cL_law 399 = .ok (.iadd, 1) := by decide +kernel
theorem dL_law_400 : decode cL_law 400 = .ok (.iaload, 1) := by decide +kernel
theorem dL_law_401 : decode cL_law 401 = .ok (.invokevirtual 60, 3) := by decide +kernel
theorem dL_law_404 : decode cL_law 404 = .ok (.if_icmp .eq 320, 3) := by decide +kernel
theorem dL_law_407 : decode cL_law 407 = .ok (.iconst 0, 1) := by decide +kernel
theorem dL_law_408 : decode cL_law 408 = .ok (.ireturn, 1) := by decide +kernel
theorem dL_law_409 : decode cL_law 409 = .ok (.aload_n 1, 1) := by decide +kernel
theorem dL_law_410 : decode cL_law 410 = .ok (.aload_n 0, 1) := by decide +kernel
theorem dL_law_411 : decode cL_law 411 = .ok (.iload 4, 2) := by decide +kernel
theorem dL_law_413 : decode cL_law 413 = .ok (.iconst 1, 1) := by decide +kernel
theorem dL_law_414 : decode cL_law 414 = .ok (.iadd, 1) := by decide +kernel
theorem dL_law_415 : decode cL_law 415 = .ok (.iaload, 1) := by decide +kernel
theorem dL_law_416 : decode cL_law 416 = .ok (.aload_n 0, 1) := by decide +kernel
theorem dL_law_417 : decode cL_law 417 = .ok (.iload 4, 2) := by decide +kernel
theorem dL_law_419 : decode cL_law 419 = .ok (.iconst 2, 1) := by decide +kernel
theorem dL_law_420 : decode cL_law 420 = .ok (.iadd, 1) := by decide +kernel
theorem dL_law_421 : decode cL_law 421 = .ok (.iaload, 1) := by decide +kernel
theorem dL_law_422 : decode cL_law 422 = .ok (.aload_n 0, 1) := by decide +kernel
theorem dL_law_423 : decode cL_law 423 = .ok (.iload 4, 2) := by decide +kernel
theorem dL_law_425 : decode cL_law 425 = .ok (.iconst 3, 1) := by decide +kernel
theorem dL_law_426 : decode cL_law 426 = .ok (.iadd, 1) := by decide +kernel
theorem dL_law_427 : decode cL_law 427 = .ok (.iaload, 1) := by decide +kernel
theorem dL_law_428 : decode cL_law 428 = .ok (.aload_n 3, 1) := by decide +kernel
theorem dL_law_429 : decode cL_law 429 = .ok (.invokestatic 61, 3) := by decide +kernel
theorem dL_law_432 : decode cL_law 432 = .ok (.istore 5, 2) := by decide +kernel
theorem dL_law_434 : decode cL_law 434 = .ok (.aload_n 2, 1) := by decide +kernel
theorem dL_law_435 : decode cL_law 435 = .ok (.aload_n 0, 1) := by decide +kernel
theorem dL_law_436 : decode cL_law 436 = .ok (.iload 4, 2) := by decide +kernel
theorem dL_law_438 : decode cL_law 438 = .ok (.iconst 1, 1) := by decide +kernel
theorem dL_law_439 : decode cL_law 439 = .ok (.iadd, 1) := by decide +kernel
theorem dL_law_440 : decode cL_law 440 = .ok (.iaload, 1) := by decide +kernel
theorem dL_law_441 : decode cL_law 441 = .ok (.aload_n 0, 1) := by decide +kernel
theorem dL_law_442 : decode cL_law 442 = .ok (.iload 4, 2) := by decide +kernel
theorem dL_law_444 : decode cL_law 444 = .ok (.iconst 2, 1) := by decide +kernel
theorem dL_law_445 : decode cL_law 445 = .ok (.iadd, 1) := by decide +kernel
theorem dL_law_446 : decode cL_law 446 = .ok (.iaload, 1) := by decide +kernel
theorem dL_law_447 : decode cL_law 447 = .ok (.aload_n 0, 1) := by decide +kernel
theorem dL_law_448 : decode cL_law 448 = .ok (.iload 4, 2) := by decide +kernel
theorem dL_law_450 : decode cL_law 450 = .ok (.iconst 3, 1) := by decide +kernel
theorem dL_law_451 : decode cL_law 451 = .ok (.iadd, 1) := by decide +kernel
theorem dL_law_452 : decode cL_law 452 = .ok (.iaload, 1) := by decide +kernel
theorem dL_law_453 : decode cL_law 453 = .ok (.invokevirtual 64, 3) := by decide +kernel
theorem dL_law_456 : decode cL_law 456 = .ok (.istore 6, 2) := by decide +kernel
theorem dL_law_458 : decode cL_law 458 = .ok (.aload_n 2, 1) := by decide +kernel
theorem dL_law_459 : decode cL_law 459 = .ok (.invokevirtual 41, 3) := by decide +kernel
theorem dL_law_462 : decode cL_law 462 = .ok (.iload 5, 2) := by decide +kernel
theorem dL_law_464 : decode cL_law 464 = .ok (.if_icmp .eq 5, 3) := by decide +kernel
theorem dL_law_467 : decode cL_law 467 = .ok (.iconst 0, 1) := by decide +kernel
theorem dL_law_468 : decode cL_law 468 = .ok (.ireturn, 1) := by decide +kernel
theorem dL_law_469 : decode cL_law 469 = .ok (.iload 5, 2) := by decide +kernel
theorem dL_law_471 : decode cL_law 471 = .ok (.ifCond .ne 15, 3) := by decide +kernel
theorem dL_law_474 : decode cL_law 474 = .ok (.aload_n 3, 1) := by decide +kernel
theorem dL_law_475 : decode cL_law 475 = .ok (.iconst 0, 1) := by decide +kernel
theorem dL_law_476 : decode cL_law 476 = .ok (.laload, 1) := by decide +kernel
theorem dL_law_477 : decode cL_law 477 = .ok (.iload 6, 2) := by decide +kernel
theorem dL_law_479 : decode cL_law 479 = .ok (.i2l, 1) := by decide +kernel
theorem dL_law_480 : decode cL_law 480 = .ok (.lcmp, 1) := by decide +kernel
theorem dL_law_481 : decode cL_law 481 = .ok (.ifCond .eq 5, 3) := by decide +kernel
theorem dL_law_484 : decode cL_law 484 = .ok (.iconst 0, 1) := by decide +kernel
theorem dL_law_485 : decode cL_law 485 = .ok (.ireturn, 1) := by decide +kernel
theorem dL_law_486 : decode cL_law 486 = .ok (.goto 238, 3) := by decide +kernel
theorem dL_law_489 : decode cL_law 489 = .ok (.aload_n 1, 1) := by decide +kernel
theorem dL_law_490 : decode cL_law 490 = .ok (.aload_n 0, 1) := by decide +kernel
theorem dL_law_491 : decode cL_law 491 = .ok (.iload 4, 2) := by decide +kernel
theorem dL_law_493 : decode cL_law 493 = .ok (.iconst 1, 1) := by decide +kernel
theorem dL_law_494 : decode cL_law 494 = .ok (.iadd, 1) := by decide +kernel
theorem dL_law_495 : decode cL_law 495 = .ok (.iaload, 1) := by decide +kernel
theorem dL_law_496 : decode cL_law 496 = .ok (.aload_n 0, 1) := by decide +kernel
theorem dL_law_497 : decode cL_law 497 = .ok (.iload 4, 2) := by decide +kernel
theorem dL_law_499 : decode cL_law 499 = .ok (.iconst 2, 1) := by decide +kernel
theorem dL_law_500 : decode cL_law 500 = .ok (.iadd, 1) := by decide +kernel
theorem dL_law_501 : decode cL_law 501 = .ok (.iaload, 1) := by decide +kernel
theorem dL_law_502 : decode cL_law 502 = .ok (.invokevirtual 65, 3) := by decide +kernel
theorem dL_law_505 : decode cL_law 505 = .ok (.aload_n 2, 1) := by decide +kernel
theorem dL_law_506 : decode cL_law 506 = .ok (.aload_n 0, 1) := by decide +kernel
theorem dL_law_507 : decode cL_law 507 = .ok (.iload 4, 2) := by decide +kernel
theorem dL_law_509 : decode cL_law 509 = .ok (.iconst 1, 1) := by decide +kernel
theorem dL_law_510 : decode cL_law 510 = .ok (.iadd, 1) := by decide +kernel
theorem dL_law_511 : decode cL_law 511 = .ok (.iaload, 1) := by decide +kernel
theorem dL_law_512 : decode cL_law 512 = .ok (.aload_n 0, 1) := by decide +kernel
theorem dL_law_513 : decode cL_law 513 = .ok (.iload 4, 2) := by decide +kernel
theorem dL_law_515 : decode cL_law 515 = .ok (.iconst 2, 1) := by decide +kernel
theorem dL_law_516 : decode cL_law 516 = .ok (.iadd, 1) := by decide +kernel
theorem dL_law_517 : decode cL_law 517 = .ok (.iaload, 1) := by decide +kernel
theorem dL_law_518 : decode cL_law 518 = .ok (.invokevirtual 68, 3) := by decide +kernel
theorem dL_law_521 : decode cL_law 521 = .ok (.if_icmp .eq 203, 3) := by decide +kernel
theorem dL_law_524 : decode cL_law 524 = .ok (.iconst 0, 1) := by decide +kernel
theorem dL_law_525 : decode cL_law 525 = .ok (.ireturn, 1) := by decide +kernel
theorem dL_law_526 : decode cL_law 526 = .ok (.aload_n 1, 1) := by decide +kernel
theorem dL_law_527 : decode cL_law 527 = .ok (.aload_n 0, 1) := by decide +kernel
theorem dL_law_528 : decode cL_law 528 = .ok (.iload 4, 2) := by decide +kernel
theorem dL_law_530 : decode cL_law 530 = .ok (.iconst 1, 1) := by decide +kernel
theorem dL_law_531 : decode cL_law 531 = .ok (.iadd, 1) := by decide +kernel
theorem dL_law_532 : decode cL_law 532 = .ok (.iaload, 1) := by decide +kernel
theorem dL_law_533 : decode cL_law 533 = .ok (.aload_n 0, 1) := by decide +kernel
theorem dL_law_534 : decode cL_law 534 = .ok (.iload 4, 2) := by decide +kernel
theorem dL_law_536 : decode cL_law 536 = .ok (.iconst 2, 1) := by decide +kernel
theorem dL_law_537 : decode cL_law 537 = .ok (.iadd, 1) := by decide +kernel
theorem dL_law_538 : decode cL_law 538 = .ok (.iaload, 1) := by decide +kernel
theorem dL_law_539 : decode cL_law 539 = .ok (.invokevirtual 69, 3) := by decide +kernel
theorem dL_law_542 : decode cL_law 542 = .ok (.aload_n 2, 1) := by decide +kernel
theorem dL_law_543 : decode cL_law 543 = .ok (.aload_n 0, 1) := by decide +kernel
theorem dL_law_544 : decode cL_law 544 = .ok (.iload 4, 2) := by decide +kernel
theorem dL_law_546 : decode cL_law 546 = .ok (.iconst 1, 1) := by decide +kernel
theorem dL_law_547 : decode cL_law 547 = .ok (.iadd, 1) := by decide +kernel
theorem dL_law_548 : decode cL_law 548 = .ok (.iaload, 1) := by decide +kernel
theorem dL_law_549 : decode cL_law 549 = .ok (.aload_n 0, 1) := by decide +kernel
theorem dL_law_550 : decode cL_law 550 = .ok (.iload 4, 2) := by decide +kernel
theorem dL_law_552 : decode cL_law 552 = .ok (.iconst 2, 1) := by decide +kernel
theorem dL_law_553 : decode cL_law 553 = .ok (.iadd, 1) := by decide +kernel
theorem dL_law_554 : decode cL_law 554 = .ok (.iaload, 1) := by decide +kernel
theorem dL_law_555 : decode cL_law 555 = .ok (.invokevirtual 72, 3) := by decide +kernel
theorem dL_law_558 : decode cL_law 558 = .ok (.if_icmp .eq 166, 3) := by decide +kernel
theorem dL_law_561 : decode cL_law 561 = .ok (.iconst 0, 1) := by decide +kernel
theorem dL_law_562 : decode cL_law 562 = .ok (.ireturn, 1) := by decide +kernel
theorem dL_law_563 : decode cL_law 563 = .ok (.aload_n 1, 1) := by decide +kernel
theorem dL_law_564 : decode cL_law 564 = .ok (.aload_n 0, 1) := by decide +kernel
theorem dL_law_565 : decode cL_law 565 = .ok (.iload 4, 2) := by decide +kernel
theorem dL_law_567 : decode cL_law 567 = .ok (.iconst 1, 1) := by decide +kernel
theorem dL_law_568 : decode cL_law 568 = .ok (.iadd, 1) := by decide +kernel
theorem dL_law_569 : decode cL_law 569 = .ok (.iaload, 1) := by decide +kernel
theorem dL_law_570 : decode cL_law 570 = .ok (.invokevirtual 73, 3) := by decide +kernel
theorem dL_law_573 : decode cL_law 573 = .ok (.aload_n 2, 1) := by decide +kernel
theorem dL_law_574 : decode cL_law 574 = .ok (.aload_n 0, 1) := by decide +kernel
theorem dL_law_575 : decode cL_law 575 = .ok (.iload 4, 2) := by decide +kernel
theorem dL_law_577 : decode cL_law 577 = .ok (.iconst 1, 1) := by decide +kernel
theorem dL_law_578 : decode cL_law 578 = .ok (.iadd, 1) := by decide +kernel
theorem dL_law_579 : decode cL_law 579 = .ok (.iaload, 1) := by decide +kernel
theorem dL_law_580 : decode cL_law 580 = .ok (.invokevirtual 76, 3) := by decide +kernel
theorem dL_law_583 : decode cL_law 583 = .ok (.if_icmp .eq 141, 3) := by decide +kernel
theorem dL_law_586 : decode cL_law 586 = .ok (.iconst 0, 1) := by decide +kernel
theorem dL_law_587 : decode cL_law 587 = .ok (.ireturn, 1) := by decide +kernel
theorem dL_law_588 : decode cL_law 588 = .ok (.aload_n 1, 1) := by decide +kernel
theorem dL_law_589 : decode cL_law 589 = .ok (.aload_n 0, 1) := by decide +kernel
theorem dL_law_590 : decode cL_law 590 = .ok (.iload 4, 2) := by decide +kernel
theorem dL_law_592 : decode cL_law 592 = .ok (.iconst 1, 1) := by decide +kernel
theorem dL_law_593 : decode cL_law 593 = .ok (.iadd, 1) := by decide +kernel
theorem dL_law_594 : decode cL_law 594 = .ok (.iaload, 1) := by decide +kernel
theorem dL_law_595 : decode cL_law 595 = .ok (.invokevirtual 77, 3) := by decide +kernel
theorem dL_law_598 : decode cL_law 598 = .ok (.aload_n 2, 1) := by decide +kernel
theorem dL_law_599 : decode cL_law 599 = .ok (.aload_n 0, 1) := by decide +kernel
theorem dL_law_600 : decode cL_law 600 = .ok (.iload 4, 2) := by decide +kernel
theorem dL_law_602 : decode cL_law 602 = .ok (.iconst 1, 1) := by decide +kernel
theorem dL_law_603 : decode cL_law 603 = .ok (.iadd, 1) := by decide +kernel
theorem dL_law_604 : decode cL_law 604 = .ok (.iaload, 1) := by decide +kernel
theorem dL_law_605 : decode cL_law 605 = .ok (.invokevirtual 80, 3) := by decide +kernel
theorem dL_law_608 : decode cL_law 608 = .ok (.if_icmp .eq 116, 3) := by decide +kernel
theorem dL_law_611 : decode cL_law 611 = .ok (.iconst 0, 1) := by decide +kernel
theorem dL_law_612 : decode cL_law 612 = .ok (.ireturn, 1) := by decide +kernel
theorem dL_law_613 : decode cL_law 613 = .ok (.aload_n 1, 1) := by decide +kernel
theorem dL_law_614 : decode cL_law 614 = .ok (.aload_n 0, 1) := by decide +kernel
theorem dL_law_615 : decode cL_law 615 = .ok (.iload 4, 2) := by decide +kernel
theorem dL_law_617 : decode cL_law 617 = .ok (.iconst 1, 1) := by decide +kernel
theorem dL_law_618 : decode cL_law 618 = .ok (.iadd, 1) := by decide +kernel
theorem dL_law_619 : decode cL_law 619 = .ok (.iaload, 1) := by decide +kernel
theorem dL_law_620 : decode cL_law 620 = .ok (.aload_n 0, 1) := by decide +kernel
theorem dL_law_621 : decode cL_law 621 = .ok (.iload 4, 2) := by decide +kernel
theorem dL_law_623 : decode cL_law 623 = .ok (.iconst 2, 1) := by decide +kernel
theorem dL_law_624 : decode cL_law 624 = .ok (.iadd, 1) := by decide +kernel
theorem dL_law_625 : decode cL_law 625 = .ok (.iaload, 1) := by decide +kernel
theorem dL_law_626 : decode cL_law 626 = .ok (.aload_n 0, 1) := by decide +kernel
theorem dL_law_627 : decode cL_law 627 = .ok (.iload 4, 2) := by decide +kernel
theorem dL_law_629 : decode cL_law 629 = .ok (.iconst 3, 1) := by decide +kernel
theorem dL_law_630 : decode cL_law 630 = .ok (.iadd, 1) := by decide +kernel
theorem dL_law_631 : decode cL_law 631 = .ok (.iaload, 1) := by decide +kernel
theorem dL_law_632 : decode cL_law 632 = .ok (.invokevirtual 81, 3) := by decide +kernel
theorem dL_law_635 : decode cL_law 635 = .ok (.aload_n 2, 1) := by decide +kernel
theorem dL_law_636 : decode cL_law 636 = .ok (.aload_n 0, 1) := by decide +kernel
theorem dL_law_637 : decode cL_law 637 = .ok (.iload 4, 2) := by decide +kernel
theorem dL_law_639 : decode cL_law 639 = .ok (.iconst 1, 1) := by decide +kernel
theorem dL_law_640 : decode cL_law 640 = .ok (.iadd, 1) := by decide +kernel
theorem dL_law_641 : decode cL_law 641 = .ok (.iaload, 1) := by decide +kernel
theorem dL_law_642 : decode cL_law 642 = .ok (.aload_n 0, 1) := by decide +kernel
theorem dL_law_643 : decode cL_law 643 = .ok (.iload 4, 2) := by decide +kernel
theorem dL_law_645 : decode cL_law 645 = .ok (.iconst 2, 1) := by decide +kernel
theorem dL_law_646 : decode cL_law 646 = .ok (.iadd, 1) := by decide +kernel
theorem dL_law_647 : decode cL_law 647 = .ok (.iaload, 1) := by decide +kernel
theorem dL_law_648 : decode cL_law 648 = .ok (.aload_n 0, 1) := by decide +kernel
theorem dL_law_649 : decode cL_law 649 = .ok (.iload 4, 2) := by decide +kernel
theorem dL_law_651 : decode cL_law 651 = .ok (.iconst 3, 1) := by decide +kernel
theorem dL_law_652 : decode cL_law 652 = .ok (.iadd, 1) := by decide +kernel
theorem dL_law_653 : decode cL_law 653 = .ok (.iaload, 1) := by decide +kernel
theorem dL_law_654 : decode cL_law 654 = .ok (.invokevirtual 84, 3) := by decide +kernel
theorem dL_law_657 : decode cL_law 657 = .ok (.if_icmp .eq 67, 3) := by decide +kernel
theorem dL_law_660 : decode cL_law 660 = .ok (.iconst 0, 1) := by decide +kernel
theorem dL_law_661 : decode cL_law 661 = .ok (.ireturn, 1) := by decide +kernel
theorem dL_law_662 : decode cL_law 662 = .ok (.aload_n 1, 1) := by decide +kernel
theorem dL_law_663 : decode cL_law 663 = .ok (.aload_n 0, 1) := by decide +kernel
theorem dL_law_664 : decode cL_law 664 = .ok (.iload 4, 2) := by decide +kernel
theorem dL_law_666 : decode cL_law 666 = .ok (.iconst 1, 1) := by decide +kernel
theorem dL_law_667 : decode cL_law 667 = .ok (.iadd, 1) := by decide +kernel
theorem dL_law_668 : decode cL_law 668 = .ok (.iaload, 1) := by decide +kernel
theorem dL_law_669 : decode cL_law 669 = .ok (.invokevirtual 85, 3) := by decide +kernel
theorem dL_law_672 : decode cL_law 672 = .ok (.aload_n 2, 1) := by decide +kernel
theorem dL_law_673 : decode cL_law 673 = .ok (.aload_n 0, 1) := by decide +kernel
theorem dL_law_674 : decode cL_law 674 = .ok (.iload 4, 2) := by decide +kernel
theorem dL_law_676 : decode cL_law 676 = .ok (.iconst 1, 1) := by decide +kernel
theorem dL_law_677 : decode cL_law 677 = .ok (.iadd, 1) := by decide +kernel
theorem dL_law_678 : decode cL_law 678 = .ok (.iaload, 1) := by decide +kernel
theorem dL_law_679 : decode cL_law 679 = .ok (.invokevirtual 88, 3) := by decide +kernel
theorem dL_law_682 : decode cL_law 682 = .ok (.if_icmp .eq 42, 3) := by decide +kernel
theorem dL_law_685 : decode cL_law 685 = .ok (.iconst 0, 1) := by decide +kernel
theorem dL_law_686 : decode cL_law 686 = .ok (.ireturn, 1) := by decide +kernel
theorem dL_law_687 : decode cL_law 687 = .ok (.aload_n 1, 1) := by decide +kernel
theorem dL_law_688 : decode cL_law 688 = .ok (.aload_n 0, 1) := by decide +kernel
theorem dL_law_689 : decode cL_law 689 = .ok (.iload 4, 2) := by decide +kernel
theorem dL_law_691 : decode cL_law 691 = .ok (.iconst 1, 1) := by decide +kernel
theorem dL_law_692 : decode cL_law 692 = .ok (.iadd, 1) := by decide +kernel
theorem dL_law_693 : decode cL_law 693 = .ok (.iaload, 1) := by decide +kernel
theorem dL_law_694 : decode cL_law 694 = .ok (.aload_n 0, 1) := by decide +kernel
theorem dL_law_695 : decode cL_law 695 = .ok (.iload 4, 2) := by decide +kernel
theorem dL_law_697 : decode cL_law 697 = .ok (.iconst 2, 1) := by decide +kernel
theorem dL_law_698 : decode cL_law 698 = .ok (.iadd, 1) := by decide +kernel
theorem dL_law_699 : decode cL_law 699 = .ok (.iaload, 1) := by decide +kernel
theorem dL_law_700 : decode cL_law 700 = .ok (.invokevirtual 89, 3) := by decide +kernel
theorem dL_law_703 : decode cL_law 703 = .ok (.aload_n 2, 1) := by decide +kernel
theorem dL_law_704 : decode cL_law 704 = .ok (.aload_n 0, 1) := by decide +kernel
theorem dL_law_705 : decode cL_law 705 = .ok (.iload 4, 2) := by decide +kernel
theorem dL_law_707 : decode cL_law 707 = .ok (.iconst 1, 1) := by decide +kernel
theorem dL_law_708 : decode cL_law 708 = .ok (.iadd, 1) := by decide +kernel
theorem dL_law_709 : decode cL_law 709 = .ok (.iaload, 1) := by decide +kernel
theorem dL_law_710 : decode cL_law 710 = .ok (.aload_n 0, 1) := by decide +kernel
theorem dL_law_711 : decode cL_law 711 = .ok (.iload 4, 2) := by decide +kernel
theorem dL_law_713 : decode cL_law 713 = .ok (.iconst 2, 1) := by decide +kernel
theorem dL_law_714 : decode cL_law 714 = .ok (.iadd, 1) := by decide +kernel
theorem dL_law_715 : decode cL_law 715 = .ok (.iaload, 1) := by decide +kernel
theorem dL_law_716 : decode cL_law 716 = .ok (.invokevirtual 92, 3) := by decide +kernel
theorem dL_law_719 : decode cL_law 719 = .ok (.if_icmp .eq 5, 3) := by decide +kernel
theorem dL_law_722 : decode cL_law 722 = .ok (.iconst 0, 1) := by decide +kernel
theorem dL_law_723 : decode cL_law 723 = .ok (.ireturn, 1) := by decide +kernel
theorem dL_law_724 : decode cL_law 724 = .ok (.iinc 4 4, 3) := by decide +kernel
theorem dL_law_727 : decode cL_law 727 = .ok (.goto (-704), 3) := by decide +kernel
theorem dL_law_730 : decode cL_law 730 = .ok (.iconst 1, 1) := by decide +kernel
theorem dL_law_731 : decode cL_law 731 = .ok (.ireturn, 1) := by decide +kernel
abbrev vwCl : List vw_C := [(RX0, TX0, 7), (RX1, TX1, 2), (RX2, TX2, 2), (RX3, TX3, 7), (RX4, TX4, 5), (RX5, TX5, 7), (RX6, TX6, 28)]
