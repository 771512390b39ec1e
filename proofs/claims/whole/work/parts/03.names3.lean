set_option maxRecDepth 20000 in
theorem gX5_add_X4_takeIn : GoodIn wsX5_add (wsV RX5 64 RX4 yX4_takeIn wsX4_takeIn) := goodIn_app (goodIn_of _ (by decide +kernel)) ggX5_add_X4_takeIn
theorem dX5_add_0 : decode cX5_add 0 = .ok (.aload_n 0, 1) := by decide +kernel
theorem dX5_add_1 : decode cX5_add 1 = .ok (.iload_n 1, 1) := by decide +kernel
theorem dX5_add_2 : decode cX5_add 2 = .ok (.invokevirtual 47, 3) := by decide +kernel
theorem dX5_add_5 : decode cX5_add 5 = .ok (.astore_n 3, 1) := by decide +kernel
theorem dX5_add_6 : decode cX5_add 6 = .ok (.aload_n 3, 1) := by decide +kernel
theorem dX5_add_7 : decode cX5_add 7 = .ok (.ifnull 21, 3) := by decide +kernel
theorem dX5_add_10 : decode cX5_add 10 = .ok (.iload_n 2, 1) := by decide +kernel
theorem dX5_add_11 : decode cX5_add 11 = .ok (.invokestatic 51, 3) := by decide +kernel
theorem dX5_add_14 : decode cX5_add 14 = .ok (.ifCond .eq 14, 3) := by decide +kernel
theorem dX5_add_17 : decode cX5_add 17 = .ok (.aload_n 3, 1) := by decide +kernel
theorem dX5_add_18 : decode cX5_add 18 = .ok (.getfield 55, 3) := by decide +kernel
theorem dX5_add_21 : decode cX5_add 21 = .ok (.iload_n 2, 1) := by decide +kernel
theorem dX5_add_22 : decode cX5_add 22 = .ok (.invokevirtual 59, 3) := by decide +kernel
theorem dX5_add_25 : decode cX5_add 25 = .ok (.ifCond .eq 5, 3) := by decide +kernel
theorem dX5_add_28 : decode cX5_add 28 = .ok (.iconst (-1), 1) := by decide +kernel
theorem dX5_add_29 : decode cX5_add 29 = .ok (.ireturn, 1) := by decide +kernel
theorem dX5_add_30 : decode cX5_add 30 = .ok (.aload_n 3, 1) := by decide +kernel
theorem dX5_add_31 : decode cX5_add 31 = .ok (.iload_n 2, 1) := by decide +kernel
theorem dX5_add_32 : decode cX5_add 32 = .ok (.invokevirtual 64, 3) := by decide +kernel
theorem dX5_add_35 : decode cX5_add 35 = .ok (.ireturn, 1) := by decide +kernel
set_option maxRecDepth 20000 in
theorem ggX5_ask_X5_treeOf : GoodIn wsX5_ask wsX5_treeOf := goodIn_r _ [7, 8, 100, 101, 102, 103, 104, 105, 106] (by decide +kernel) (by decide +kernel)
set_option maxRecDepth 20000 in
theorem gX5_ask_X5_treeOf : GoodIn wsX5_ask (wsV RX5 47 RX5 yX5_treeOf wsX5_treeOf) := goodIn_app (goodIn_of _ (by decide +kernel)) ggX5_ask_X5_treeOf
set_option maxRecDepth 20000 in
theorem ggX5_ask_X5_isKey : GoodIn wsX5_ask wsX5_isKey := goodIn_r _ [11] (by decide +kernel) (by decide +kernel)
set_option maxRecDepth 20000 in
theorem gX5_ask_X5_isKey : GoodIn wsX5_ask (va_wsS RX5 51 yX5_isKey wsX5_isKey) := goodIn_app (goodIn_of _ (by decide +kernel)) ggX5_ask_X5_isKey
set_option maxRecDepth 20000 in
theorem ggX5_ask_X4_seek : GoodIn wsX5_ask wsX4_seek := goodIn_r _ [16, 17, 18, 19, 20, 21, 22, 23, 24, 25, 26, 27, 28, 29, 30, 31, 6, 32, 33, 34, 35, 36, 37, 38, 39, 40, 41, 42, 43, 44, 45, 46, 47, 48, 49, 50, 51, 52, 53, 54, 55, 56, 57, 58, 59, 60, 61, 62, 63, 64, 65, 66, 67, 15, 68, 69, 70, 71, 72, 73, 74, 75, 76, 77, 78, 79, 80, 81, 82, 83, 84, 85, 86, 87, 88, 89, 90, 91, 92, 93, 94, 95, 96, 97, 98, 99, 107, 108, 109, 110, 111, 112, 113, 114, 115, 116, 117, 118, 119, 120] (by decide +kernel) (by decide +kernel)
set_option maxRecDepth 20000 in
theorem gX5_ask_X4_seek : GoodIn wsX5_ask (wsV RX5 74 RX4 yX4_seek wsX4_seek) := goodIn_app (goodIn_of _ (by decide +kernel)) ggX5_ask_X4_seek
theorem dX5_ask_0 : decode cX5_ask 0 = .ok (.aload_n 0, 1) := by decide +kernel
theorem dX5_ask_1 : decode cX5_ask 1 = .ok (.iload_n 1, 1) := by decide +kernel
theorem dX5_ask_2 : decode cX5_ask 2 = .ok (.invokevirtual 47, 3) := by decide +kernel
theorem dX5_ask_5 : decode cX5_ask 5 = .ok (.astore_n 3, 1) := by decide +kernel
theorem dX5_ask_6 : decode cX5_ask 6 = .ok (.aload_n 3, 1) := by decide +kernel
theorem dX5_ask_7 : decode cX5_ask 7 = .ok (.ifnull 10, 3) := by decide +kernel
theorem dX5_ask_10 : decode cX5_ask 10 = .ok (.iload_n 2, 1) := by decide +kernel
theorem dX5_ask_11 : decode cX5_ask 11 = .ok (.invokestatic 51, 3) := by decide +kernel
theorem dX5_ask_14 : decode cX5_ask 14 = .ok (.ifCond .ne 13, 3) := by decide +kernel
theorem dX5_ask_17 : decode cX5_ask 17 = .ok (.new 67, 3) := by decide +kernel
theorem dX5_ask_20 : decode cX5_ask 20 = .ok (.dup, 1) := by decide +kernel
theorem dX5_ask_21 : decode cX5_ask 21 = .ok (.ldc 69, 2) := by decide +kernel
theorem dX5_ask_23 : decode cX5_ask 23 = .ok (.invokespecial 71, 3) := by decide +kernel
theorem dX5_ask_26 : decode cX5_ask 26 = .ok (.athrow, 1) := by decide +kernel
theorem dX5_ask_27 : decode cX5_ask 27 = .ok (.aload_n 3, 1) := by decide +kernel
theorem dX5_ask_28 : decode cX5_ask 28 = .ok (.iload_n 2, 1) := by decide +kernel
theorem dX5_ask_29 : decode cX5_ask 29 = .ok (.invokevirtual 74, 3) := by decide +kernel
theorem dX5_ask_32 : decode cX5_ask 32 = .ok (.ireturn, 1) := by decide +kernel
set_option maxRecDepth 20000 in
theorem ggX5_remove_X5_treeOf : GoodIn wsX5_remove wsX5_treeOf := goodIn_r _ [7, 8, 146, 147, 148, 149, 150, 151, 152] (by decide +kernel) (by decide +kernel)
set_option maxRecDepth 20000 in
theorem gX5_remove_X5_treeOf : GoodIn wsX5_remove (wsV RX5 47 RX5 yX5_treeOf wsX5_treeOf) := goodIn_app (goodIn_of _ (by decide +kernel)) ggX5_remove_X5_treeOf
set_option maxRecDepth 20000 in
theorem ggX5_remove_X5_isKey : GoodIn wsX5_remove wsX5_isKey := goodIn_r _ [11] (by decide +kernel) (by decide +kernel)
set_option maxRecDepth 20000 in
theorem gX5_remove_X5_isKey : GoodIn wsX5_remove (va_wsS RX5 51 yX5_isKey wsX5_isKey) := goodIn_app (goodIn_of _ (by decide +kernel)) ggX5_remove_X5_isKey
set_option maxRecDepth 20000 in
theorem ggX5_remove_X4_giveUp : GoodIn wsX5_remove wsX4_giveUp := goodIn_r _ [16, 17, 18, 19, 20, 21, 22, 23, 24, 25, 26, 27, 28, 29, 30, 31, 32, 6, 33, 34, 35, 36, 37, 38, 39, 40, 41, 42, 43, 44, 45, 46, 47, 48, 49, 50, 51, 52, 53, 54, 55, 56, 57, 58, 59, 15, 60, 61, 62, 63, 64, 65, 66, 67, 68, 69, 70, 71, 72, 73, 74, 75, 76, 77, 78, 79, 80, 81, 82, 83, 84, 85, 86, 87, 88, 89, 90, 91, 92, 93, 94, 95, 96, 97, 98, 99, 100, 101, 102, 103, 104, 105, 106, 107, 108, 109, 110, 111, 112, 113, 114, 115, 116, 117, 118, 119, 120, 121, 122, 123, 124, 125, 126, 127, 128, 129, 130, 131, 132, 133, 134, 135, 136, 137, 138, 139, 140, 141, 142, 143, 144, 145, 153, 154, 155, 156, 157, 158, 159, 160, 161, 162, 163, 164] (by decide +kernel) (by decide +kernel)
set_option maxRecDepth 20000 in
theorem gX5_remove_X4_giveUp : GoodIn wsX5_remove (wsV RX5 77 RX4 yX4_giveUp wsX4_giveUp) := goodIn_app (goodIn_of _ (by decide +kernel)) ggX5_remove_X4_giveUp
theorem dX5_remove_0 : decode cX5_remove 0 = .ok (.aload_n 0, 1) := by decide +kernel
theorem dX5_remove_1 : decode cX5_remove 1 = .ok (.iload_n 1, 1) := by decide +kernel
theorem dX5_remove_2 : decode cX5_remove 2 = .ok (.invokevirtual 47, 3) := by decide +kernel
theorem dX5_remove_5 : decode cX5_remove 5 = .ok (.astore_n 3, 1) := by decide +kernel
theorem dX5_remove_6 : decode cX5_remove 6 = .ok (.aload_n 3, 1) := by decide +kernel
theorem dX5_remove_7 : decode cX5_remove 7 = .ok (.ifnull 10, 3) := by decide +kernel
theorem dX5_remove_10 : decode cX5_remove 10 = .ok (.iload_n 2, 1) := by decide +kernel
theorem dX5_remove_11 : decode cX5_remove 11 = .ok (.invokestatic 51, 3) := by decide +kernel
theorem dX5_remove_14 : decode cX5_remove 14 = .ok (.ifCond .ne 13, 3) := by decide +kernel
theorem dX5_remove_17 : decode cX5_remove 17 = .ok (.new 67, 3) := by decide +kernel
theorem dX5_remove_20 : decode cX5_remove 20 = .ok (.dup, 1) := by decide +kernel
theorem dX5_remove_21 : decode cX5_remove 21 = .ok (.ldc 69, 2) := by decide +kernel
theorem dX5_remove_23 : decode cX5_remove 23 = .ok (.invokespecial 71, 3) := by decide +kernel
theorem dX5_remove_26 : decode cX5_remove 26 = .ok (.athrow, 1) := by decide +kernel
theorem dX5_remove_27 : decode cX5_remove 27 = .ok (.aload_n 3, 1) := by decide +kernel
theorem dX5_remove_28 : decode cX5_remove 28 = .ok (.iload_n 2, 1) := by decide +kernel
theorem dX5_remove_29 : decode cX5_remove 29 = .ok (.invokevirtual 77, 3) := by decide +kernel
theorem dX5_remove_32 : decode cX5_remove 32 = .ok (.ireturn, 1) := by decide +kernel
set_option maxRecDepth 20000 in
theorem ggX5_split_X5_treeOf : GoodIn wsX5_split wsX5_treeOf := goodIn_r _ [7, 8, 124, 125, 126, 127, 128, 129, 130] (by decide +kernel) (by decide +kernel)
set_option maxRecDepth 20000 in
theorem gX5_split_X5_treeOf : GoodIn wsX5_split (wsV RX5 47 RX5 yX5_treeOf wsX5_treeOf) := goodIn_app (goodIn_of _ (by decide +kernel)) ggX5_split_X5_treeOf
set_option maxRecDepth 20000 in
theorem ggX5_split_X5_isKey : GoodIn wsX5_split wsX5_isKey := goodIn_r _ [11] (by decide +kernel) (by decide +kernel)
set_option maxRecDepth 20000 in
theorem gX5_split_X5_isKey : GoodIn wsX5_split (va_wsS RX5 51 yX5_isKey wsX5_isKey) := goodIn_app (goodIn_of _ (by decide +kernel)) ggX5_split_X5_isKey
set_option maxRecDepth 20000 in
theorem ggX5_split_X5_newTree : GoodIn wsX5_split wsX5_newTree := goodIn_r _ [15, 16, 8, 17, 18, 19, 20, 21, 22, 23, 24, 25, 26, 27, 28, 29, 30, 31, 32, 33, 34, 35, 36, 37, 38, 39, 40, 41, 42, 43, 44, 45, 46, 47, 48, 49, 50, 51, 52, 53, 54, 55, 56, 57, 58, 124, 125, 126, 127, 128, 129, 130, 119, 120, 121, 122, 123, 131, 132, 133, 134, 135, 136, 137, 138, 139] (by decide +kernel) (by decide +kernel)
set_option maxRecDepth 20000 in
theorem gX5_split_X5_newTree : GoodIn wsX5_split (wsV RX5 43 RX5 yX5_newTree wsX5_newTree) := goodIn_app (goodIn_of _ (by decide +kernel)) ggX5_split_X5_newTree
set_option maxRecDepth 20000 in
theorem ggX5_split_X3_cutAt : GoodIn wsX5_split wsX3_cutAt := goodIn_r _ [62, 47, 43, 42, 63, 64, 65, 29, 66, 67, 6, 68, 69, 70, 71, 72, 44, 73, 74, 75, 76, 77, 78, 79, 80, 81, 82, 83, 84, 85, 86, 87, 88, 89, 90, 45, 91, 92, 93, 94, 95, 96, 97, 98, 99, 100, 101, 102, 103, 104, 105, 106, 107, 108, 109, 110, 131, 132, 133, 134, 135, 136, 137] (by decide +kernel) (by decide +kernel)
set_option maxRecDepth 20000 in
theorem gX5_split_X3_cutAt : GoodIn wsX5_split (wsV RX5 83 RX3 yX3_cutAt wsX3_cutAt) := goodIn_app (goodIn_of _ (by decide +kernel)) ggX5_split_X3_cutAt
set_option maxRecDepth 20000 in
theorem ggX5_split_X4_beginMost : GoodIn wsX5_split wsX4_beginMost := goodIn_r _ [114, 26, 30, 36, 115, 116, 117, 29, 118, 47, 91, 92, 93, 94, 45, 119, 120, 121, 122, 123, 131, 132, 133, 134, 135, 136, 137] (by decide +kernel) (by decide +kernel)
set_option maxRecDepth 20000 in
theorem gX5_split_X4_beginMost : GoodIn wsX5_split (wsV RX5 87 RX4 yX4_beginMost wsX4_beginMost) := goodIn_app (goodIn_of _ (by decide +kernel)) ggX5_split_X4_beginMost
theorem dX5_split_0 : decode cX5_split 0 = .ok (.aload_n 0, 1) := by decide +kernel
theorem dX5_split_1 : decode cX5_split 1 = .ok (.iload_n 1, 1) := by decide +kernel
theorem dX5_split_2 : decode cX5_split 2 = .ok (.invokevirtual 47, 3) := by decide +kernel
theorem dX5_split_5 : decode cX5_split 5 = .ok (.astore_n 3, 1) := by decide +kernel
theorem dX5_split_6 : decode cX5_split 6 = .ok (.aload_n 3, 1) := by decide +kernel
theorem dX5_split_7 : decode cX5_split 7 = .ok (.ifnull 10, 3) := by decide +kernel
theorem dX5_split_10 : decode cX5_split 10 = .ok (.iload_n 2, 1) := by decide +kernel
theorem dX5_split_11 : decode cX5_split 11 = .ok (.invokestatic 51, 3) := by decide +kernel
theorem dX5_split_14 : decode cX5_split 14 = .ok (.ifCond .ne 5, 3) := by decide +kernel
theorem dX5_split_17 : decode cX5_split 17 = .ok (.iconst (-1), 1) := by decide +kernel
theorem dX5_split_18 : decode cX5_split 18 = .ok (.ireturn, 1) := by decide +kernel
theorem dX5_split_19 : decode cX5_split 19 = .ok (.aload_n 0, 1) := by decide +kernel
theorem dX5_split_20 : decode cX5_split 20 = .ok (.aload_n 3, 1) := by decide +kernel
theorem dX5_split_21 : decode cX5_split 21 = .ok (.getfield 80, 3) := by decide +kernel
theorem dX5_split_24 : decode cX5_split 24 = .ok (.invokevirtual 43, 3) := by decide +kernel
theorem dX5_split_27 : decode cX5_split 27 = .ok (.istore 4, 2) := by decide +kernel
theorem dX5_split_29 : decode cX5_split 29 = .ok (.aload_n 0, 1) := by decide +kernel
theorem dX5_split_30 : decode cX5_split 30 = .ok (.iload 4, 2) := by decide +kernel
theorem dX5_split_32 : decode cX5_split 32 = .ok (.invokevirtual 47, 3) := by decide +kernel
theorem dX5_split_35 : decode cX5_split 35 = .ok (.astore 5, 2) := by decide +kernel
theorem dX5_split_37 : decode cX5_split 37 = .ok (.aload 5, 2) := by decide +kernel
theorem dX5_split_39 : decode cX5_split 39 = .ok (.ifnonnull 5, 3) := by decide +kernel
theorem dX5_split_42 : decode cX5_split 42 = .ok (.iconst (-1), 1) := by decide +kernel
theorem dX5_split_43 : decode cX5_split 43 = .ok (.ireturn, 1) := by decide +kernel
theorem dX5_split_44 : decode cX5_split 44 = .ok (.aload_n 3, 1) := by decide +kernel
theorem dX5_split_45 : decode cX5_split 45 = .ok (.getfield 55, 3) := by decide +kernel
theorem dX5_split_48 : decode cX5_split 48 = .ok (.iload_n 2, 1) := by decide +kernel
theorem dX5_split_49 : decode cX5_split 49 = .ok (.aload 5, 2) := by decide +kernel
theorem dX5_split_51 : decode cX5_split 51 = .ok (.getfield 55, 3) := by decide +kernel
theorem dX5_split_54 : decode cX5_split 54 = .ok (.invokevirtual 83, 3) := by decide +kernel
theorem dX5_split_57 : decode cX5_split 57 = .ok (.aload_n 3, 1) := by decide +kernel
theorem dX5_split_58 : decode cX5_split 58 = .ok (.invokevirtual 87, 3) := by decide +kernel
theorem dX5_split_61 : decode cX5_split 61 = .ok (.aload 5, 2) := by decide +kernel
theorem dX5_split_63 : decode cX5_split 63 = .ok (.invokevirtual 87, 3) := by decide +kernel
theorem dX5_split_66 : decode cX5_split 66 = .ok (.iload 4, 2) := by decide +kernel
theorem dX5_split_68 : decode cX5_split 68 = .ok (.ireturn, 1) := by decide +kernel
set_option maxRecDepth 20000 in
theorem ggX5_join_X5_treeOf : GoodIn wsX5_join wsX5_treeOf := goodIn_r _ [7, 8, 121, 122, 123, 124, 125, 126, 127] (by decide +kernel) (by decide +kernel)
set_option maxRecDepth 20000 in
theorem gX5_join_X5_treeOf : GoodIn wsX5_join (wsV RX5 47 RX5 yX5_treeOf wsX5_treeOf) := goodIn_app (goodIn_of _ (by decide +kernel)) ggX5_join_X5_treeOf
set_option maxRecDepth 20000 in
theorem ggX5_join_X3_isBelow : GoodIn wsX5_join wsX3_isBelow := goodIn_r _ [13, 14, 15, 16, 17, 12, 18, 19, 20, 21, 22, 23, 24, 6, 25, 26, 27, 28, 29, 30, 31, 32, 33, 34, 128, 129, 130, 131, 132, 133, 134] (by decide +kernel) (by decide +kernel)
set_option maxRecDepth 20000 in
theorem gX5_join_X3_isBelow : GoodIn wsX5_join (wsV RX5 90 RX3 yX3_isBelow wsX3_isBelow) := goodIn_app (goodIn_of _ (by decide +kernel)) ggX5_join_X3_isBelow
set_option maxRecDepth 20000 in
theorem ggX5_join_X4_takeOver : GoodIn wsX5_join wsX4_takeOver := goodIn_r _ [39, 40, 41, 42, 43, 44, 45, 12, 46, 34, 23, 47, 48, 49, 50, 51, 52, 53, 54, 55, 56, 30, 31, 32, 33, 24, 6, 25, 57, 58, 19, 20, 21, 22, 59, 60, 61, 62, 63, 64, 65, 66, 67, 68, 69, 70, 14, 71, 72, 73, 38, 74, 75, 76, 77, 78, 79, 80, 81, 82, 83, 84, 85, 86, 87, 16, 17, 18, 88, 89, 90, 91, 92, 93, 94, 95, 96, 97, 98, 99, 100, 101, 102, 103, 104, 105, 106, 116, 117, 118, 119, 120, 128, 129, 130, 131, 132, 133, 134] (by decide +kernel) (by decide +kernel)
set_option maxRecDepth 20000 in
theorem gX5_join_X4_takeOver : GoodIn wsX5_join (wsV RX5 94 RX4 yX4_takeOver wsX4_takeOver) := goodIn_app (goodIn_of _ (by decide +kernel)) ggX5_join_X4_takeOver
set_option maxRecDepth 20000 in
theorem ggX5_join_X4_beginMost : GoodIn wsX5_join wsX4_beginMost := goodIn_r _ [110, 42, 40, 111, 112, 113, 114, 12, 115, 14, 53, 54, 55, 56, 48, 116, 117, 118, 119, 120, 128, 129, 130, 131, 132, 133, 134] (by decide +kernel) (by decide +kernel)
set_option maxRecDepth 20000 in
theorem gX5_join_X4_beginMost : GoodIn wsX5_join (wsV RX5 87 RX4 yX4_beginMost wsX4_beginMost) := goodIn_app (goodIn_of _ (by decide +kernel)) ggX5_join_X4_beginMost
theorem dX5_join_0 : decode cX5_join 0 = .ok (.aload_n 0, 1) := by decide +kernel
theorem dX5_join_1 : decode cX5_join 1 = .ok (.iload_n 1, 1) := by decide +kernel
theorem dX5_join_2 : decode cX5_join 2 = .ok (.invokevirtual 47, 3) := by decide +kernel
theorem dX5_join_5 : decode cX5_join 5 = .ok (.astore_n 3, 1) := by decide +kernel
theorem dX5_join_6 : decode cX5_join 6 = .ok (.aload_n 0, 1) := by decide +kernel
theorem dX5_join_7 : decode cX5_join 7 = .ok (.iload_n 2, 1) := by decide +kernel
theorem dX5_join_8 : decode cX5_join 8 = .ok (.invokevirtual 47, 3) := by decide +kernel
theorem dX5_join_11 : decode cX5_join 11 = .ok (.astore 4, 2) := by decide +kernel
theorem dX5_join_13 : decode cX5_join 13 = .ok (.aload_n 3, 1) := by decide +kernel
theorem dX5_join_14 : decode cX5_join 14 = .ok (.ifnull 26, 3) := by decide +kernel
theorem dX5_join_17 : decode cX5_join 17 = .ok (.aload 4, 2) := by decide +kernel
theorem dX5_join_19 : decode cX5_join 19 = .ok (.ifnull 21, 3) := by decide +kernel
theorem dX5_join_22 : decode cX5_join 22 = .ok (.aload_n 3, 1) := by decide +kernel
theorem dX5_join_23 : decode cX5_join 23 = .ok (.aload 4, 2) := by decide +kernel
theorem dX5_join_25 : decode cX5_join 25 = .ok (.if_acmp .eq 15, 3) := by decide +kernel
theorem dX5_join_28 : decode cX5_join 28 = .ok (.aload_n 3, 1) := by decide +kernel
theorem dX5_join_29 : decode cX5_join 29 = .ok (.getfield 80, 3) := by decide +kernel
theorem dX5_join_32 : decode cX5_join 32 = .ok (.aload 4, 2) := by decide +kernel
theorem dX5_join_34 : decode cX5_join 34 = .ok (.getfield 80, 3) := by decide +kernel
theorem dX5_join_37 : decode cX5_join 37 = .ok (.if_icmp .eq 5, 3) := by decide +kernel
theorem dX5_join_40 : decode cX5_join 40 = .ok (.iconst 0, 1) := by decide +kernel
theorem dX5_join_41 : decode cX5_join 41 = .ok (.ireturn, 1) := by decide +kernel
theorem dX5_join_42 : decode cX5_join 42 = .ok (.aload_n 3, 1) := by decide +kernel
theorem dX5_join_43 : decode cX5_join 43 = .ok (.getfield 55, 3) := by decide +kernel
theorem dX5_join_46 : decode cX5_join 46 = .ok (.aload 4, 2) := by decide +kernel
theorem dX5_join_48 : decode cX5_join 48 = .ok (.getfield 55, 3) := by decide +kernel
theorem dX5_join_51 : decode cX5_join 51 = .ok (.invokevirtual 90, 3) := by decide +kernel
theorem dX5_join_54 : decode cX5_join 54 = .ok (.ifCond .ne 5, 3) := by decide +kernel
theorem dX5_join_57 : decode cX5_join 57 = .ok (.iconst 0, 1) := by decide +kernel
theorem dX5_join_58 : decode cX5_join 58 = .ok (.ireturn, 1) := by decide +kernel
theorem dX5_join_59 : decode cX5_join 59 = .ok (.aload_n 3, 1) := by decide +kernel
theorem dX5_join_60 : decode cX5_join 60 = .ok (.aload 4, 2) := by decide +kernel
theorem dX5_join_62 : decode cX5_join 62 = .ok (.invokevirtual 94, 3) := by decide +kernel
theorem dX5_join_65 : decode cX5_join 65 = .ok (.aload_n 3, 1) := by decide +kernel
theorem dX5_join_66 : decode cX5_join 66 = .ok (.invokevirtual 87, 3) := by decide +kernel
theorem dX5_join_69 : decode cX5_join 69 = .ok (.aload 4, 2) := by decide +kernel
theorem dX5_join_71 : decode cX5_join 71 = .ok (.invokevirtual 87, 3) := by decide +kernel
theorem dX5_join_74 : decode cX5_join 74 = .ok (.iconst 1, 1) := by decide +kernel
theorem dX5_join_75 : decode cX5_join 75 = .ok (.ireturn, 1) := by decide +kernel
set_option maxRecDepth 20000 in
theorem ggX5_clear_X5_treeOf : GoodIn wsX5_clear wsX5_treeOf := goodIn_r _ [6, 7, 19, 20, 21, 22, 23, 24, 25] (by decide +kernel) (by decide +kernel)
set_option maxRecDepth 20000 in
theorem gX5_clear_X5_treeOf : GoodIn wsX5_clear (wsV RX5 47 RX5 yX5_treeOf wsX5_treeOf) := goodIn_app (goodIn_of _ (by decide +kernel)) ggX5_clear_X5_treeOf
set_option maxRecDepth 20000 in
theorem ggX5_clear_X2_wipe : GoodIn wsX5_clear wsX2_wipe := goodIn_r _ [12, 13, 26, 27] (by decide +kernel) (by decide +kernel)
set_option maxRecDepth 20000 in
theorem gX5_clear_X2_wipe : GoodIn wsX5_clear (wsV RX5 102 RX2 yX2_wipe wsX2_wipe) := goodIn_app (goodIn_of _ (by decide +kernel)) ggX5_clear_X2_wipe
theorem dX5_clear_0 : decode cX5_clear 0 = .ok (.aload_n 0, 1) := by decide +kernel
theorem dX5_clear_1 : decode cX5_clear 1 = .ok (.iload_n 1, 1) := by decide +kernel
theorem dX5_clear_2 : decode cX5_clear 2 = .ok (.invokevirtual 47, 3) := by decide +kernel
theorem dX5_clear_5 : decode cX5_clear 5 = .ok (.astore_n 2, 1) := by decide +kernel
theorem dX5_clear_6 : decode cX5_clear 6 = .ok (.aload_n 2, 1) := by decide +kernel
theorem dX5_clear_7 : decode cX5_clear 7 = .ok (.ifnonnull 7, 3) := by decide +kernel
theorem dX5_clear_10 : decode cX5_clear 10 = .ok (.iconst (-1), 1) := by decide +kernel
theorem dX5_clear_11 : decode cX5_clear 11 = .ok (.goto 10, 3) := by decide +kernel
theorem dX5_clear_14 : decode cX5_clear 14 = .ok (.aload_n 2, 1) := by decide +kernel
theorem dX5_clear_15 : decode cX5_clear 15 = .ok (.getfield 98, 3) := by decide +kernel
theorem dX5_clear_18 : decode cX5_clear 18 = .ok (.invokevirtual 102, 3) := by decide +kernel
theorem dX5_clear_21 : decode cX5_clear 21 = .ok (.ireturn, 1) := by decide +kernel
set_option maxRecDepth 20000 in
theorem ggX5_look_X5_treeOf : GoodIn wsX5_look wsX5_treeOf := goodIn_r _ [8, 9, 49, 50, 51, 52, 53, 54, 55] (by decide +kernel) (by decide +kernel)
set_option maxRecDepth 20000 in
theorem gX5_look_X5_treeOf : GoodIn wsX5_look (wsV RX5 47 RX5 yX5_treeOf wsX5_treeOf) := goodIn_app (goodIn_of _ (by decide +kernel)) ggX5_look_X5_treeOf
set_option maxRecDepth 20000 in
theorem ggX5_look_X3_holds : GoodIn wsX5_look wsX3_holds := goodIn_r _ [14, 15, 16, 17, 13, 18, 19, 56, 57, 58, 59, 60, 61, 62] (by decide +kernel) (by decide +kernel)
set_option maxRecDepth 20000 in
theorem gX5_look_X3_holds : GoodIn wsX5_look (wsV RX5 59 RX3 yX3_holds wsX3_holds) := goodIn_app (goodIn_of _ (by decide +kernel)) ggX5_look_X3_holds
set_option maxRecDepth 20000 in
theorem ggX5_look_X3_depthOf : GoodIn wsX5_look wsX3_depthOf := goodIn_r _ [23, 24, 11, 12, 13, 14, 15, 16, 17, 18, 19, 25, 26, 27, 28, 29, 30, 7, 31, 56, 57, 58, 59, 60, 61, 62] (by decide +kernel) (by decide +kernel)
set_option maxRecDepth 20000 in
theorem gX5_look_X3_depthOf : GoodIn wsX5_look (wsV RX5 110 RX3 yX3_depthOf wsX3_depthOf) := goodIn_app (goodIn_of _ (by decide +kernel)) ggX5_look_X3_depthOf
set_option maxRecDepth 20000 in
theorem ggX5_look_X3_upOf : GoodIn wsX5_look wsX3_upOf := goodIn_r _ [28, 29, 30, 7, 31, 56, 57, 58, 59, 60, 61, 62] (by decide +kernel) (by decide +kernel)
set_option maxRecDepth 20000 in
theorem gX5_look_X3_upOf : GoodIn wsX5_look (wsV RX5 113 RX3 yX3_upOf wsX3_upOf) := goodIn_app (goodIn_of _ (by decide +kernel)) ggX5_look_X3_upOf
set_option maxRecDepth 20000 in
theorem ggX5_look_X3_leftOf : GoodIn wsX5_look wsX3_leftOf := goodIn_r _ [36, 37, 30, 7, 31, 56, 57, 58, 59, 60, 61, 62] (by decide +kernel) (by decide +kernel)
set_option maxRecDepth 20000 in
theorem gX5_look_X3_leftOf : GoodIn wsX5_look (wsV RX5 116 RX3 yX3_leftOf wsX3_leftOf) := goodIn_app (goodIn_of _ (by decide +kernel)) ggX5_look_X3_leftOf
set_option maxRecDepth 20000 in
theorem ggX5_look_X3_rightOf : GoodIn wsX5_look wsX3_rightOf := goodIn_r _ [41, 42, 30, 7, 31, 56, 57, 58, 59, 60, 61, 62] (by decide +kernel) (by decide +kernel)
set_option maxRecDepth 20000 in
theorem gX5_look_X3_rightOf : GoodIn wsX5_look (wsV RX5 119 RX3 yX3_rightOf wsX3_rightOf) := goodIn_app (goodIn_of _ (by decide +kernel)) ggX5_look_X3_rightOf
set_option maxRecDepth 20000 in
theorem ggX5_look_X3_sizeOf : GoodIn wsX5_look wsX3_sizeOf := goodIn_r _ [18, 19, 56, 57, 58, 59, 60, 61, 62] (by decide +kernel) (by decide +kernel)
set_option maxRecDepth 20000 in
theorem gX5_look_X3_sizeOf : GoodIn wsX5_look (wsV RX5 122 RX3 yX3_sizeOf wsX3_sizeOf) := goodIn_app (goodIn_of _ (by decide +kernel)) ggX5_look_X3_sizeOf
theorem dX5_look_0 : decode cX5_look 0 = .ok (.aload_n 0, 1) := by decide +kernel
theorem dX5_look_1 : decode cX5_look 1 = .ok (.iload_n 1, 1) := by decide +kernel
theorem dX5_look_2 : decode cX5_look 2 = .ok (.invokevirtual 47, 3) := by decide +kernel
theorem dX5_look_5 : decode cX5_look 5 = .ok (.astore 4, 2) := by decide +kernel
theorem dX5_look_7 : decode cX5_look 7 = .ok (.aload 4, 2) := by decide +kernel
theorem dX5_look_9 : decode cX5_look 9 = .ok (.ifnull 15, 3) := by decide +kernel
theorem dX5_look_12 : decode cX5_look 12 = .ok (.aload 4, 2) := by decide +kernel
theorem dX5_look_14 : decode cX5_look 14 = .ok (.getfield 55, 3) := by decide +kernel
theorem dX5_look_17 : decode cX5_look 17 = .ok (.iload_n 2, 1) := by decide +kernel
theorem dX5_look_18 : decode cX5_look 18 = .ok (.invokevirtual 59, 3) := by decide +kernel
theorem dX5_look_21 : decode cX5_look 21 = .ok (.ifCond .ne 13, 3) := by decide +kernel
theorem dX5_look_24 : decode cX5_look 24 = .ok (.new 67, 3) := by decide +kernel
theorem dX5_look_27 : decode cX5_look 27 = .ok (.dup, 1) := by decide +kernel
theorem dX5_look_28 : decode cX5_look 28 = .ok (.ldc 108, 2) := by decide +kernel
theorem dX5_look_30 : decode cX5_look 30 = .ok (.invokespecial 71, 3) := by decide +kernel
theorem dX5_look_33 : decode cX5_look 33 = .ok (.athrow, 1) := by decide +kernel
theorem dX5_look_34 : decode cX5_look 34 = .ok (.iload_n 3, 1) := by decide +kernel
theorem dX5_look_35 : decode cX5_look 35 = .ok (.tableswitch 83 0 4 #[33, 43, 53, 63, 73], 33) := by decide +kernel
theorem dX5_look_68 : decode cX5_look 68 = .ok (.aload 4, 2) := by decide +kernel
theorem dX5_look_70 : decode cX5_look 70 = .ok (.getfield 55, 3) := by decide +kernel
theorem dX5_look_73 : decode cX5_look 73 = .ok (.iload_n 2, 1) := by decide +kernel
theorem dX5_look_74 : decode cX5_look 74 = .ok (.invokevirtual 110, 3) := by decide +kernel
theorem dX5_look_77 : decode cX5_look 77 = .ok (.ireturn, 1) := by decide +kernel
theorem dX5_look_78 : decode cX5_look 78 = .ok (.aload 4, 2) := by decide +kernel
theorem dX5_look_80 : decode cX5_look 80 = .ok (.getfield 55, 3) := by decide +kernel
theorem dX5_look_83 : decode cX5_look 83 = .ok (.iload_n 2, 1) := by decide +kernel
theorem dX5_look_84 : decode cX5_look 84 = .ok (.invokevirtual 113, 3) := by decide +kernel
theorem dX5_look_87 : decode cX5_look 87 = .ok (.ireturn, 1) := by decide +kernel
theorem dX5_look_88 : decode cX5_look 88 = .ok (.aload 4, 2) := by decide +kernel
theorem dX5_look_90 : decode cX5_look 90 = .ok (.getfield 55, 3) := by decide +kernel
theorem dX5_look_93 : decode cX5_look 93 = .ok (.iload_n 2, 1) := by decide +kernel
theorem dX5_look_94 : decode cX5_look 94 = .ok (.invokevirtual 116, 3) := by decide +kernel
theorem dX5_look_97 : decode cX5_look 97 = .ok (.ireturn, 1) := by decide +kernel
theorem dX5_look_98 : decode cX5_look 98 = .ok (.aload 4, 2) := by decide +kernel
theorem dX5_look_100 : decode cX5_look 100 = .ok (.getfield 55, 3) := by decide +kernel
theorem dX5_look_103 : decode cX5_look 103 = .ok (.iload_n 2, 1) := by decide +kernel
theorem dX5_look_104 : decode cX5_look 104 = .ok (.invokevirtual 119, 3) := by decide +kernel
theorem dX5_look_107 : decode cX5_look 107 = .ok (.ireturn, 1) := by decide +kernel
theorem dX5_look_108 : decode cX5_look 108 = .ok (.aload 4, 2) := by decide +kernel
theorem dX5_look_110 : decode cX5_look 110 = .ok (.getfield 55, 3) := by decide +kernel
theorem dX5_look_113 : decode cX5_look 113 = .ok (.iload_n 2, 1) := by decide +kernel
theorem dX5_look_114 : decode cX5_look 114 = .ok (.invokevirtual 122, 3) := by decide +kernel
theorem dX5_look_117 : decode cX5_look 117 = .ok (.ireturn, 1) := by decide +kernel
theorem dX5_look_118 : decode cX5_look 118 = .ok (.new 67, 3) := by decide +kernel
theorem dX5_look_121 : decode cX5_look 121 = .ok (.dup, 1) := by decide +kernel
theorem dX5_look_122 : decode cX5_look 122 = .ok (.ldc 125, 2) := by decide +kernel
theorem dX5_look_124 : decode cX5_look 124 = .ok (.invokespecial 71, 3) := by decide +kernel
theorem dX5_look_127 : decode cX5_look 127 = .ok (.athrow, 1) := by decide +kernel
set_option maxRecDepth 20000 in
theorem ggX5_count_X5_treeOf : GoodIn wsX5_count wsX5_treeOf := goodIn_r _ [13, 14, 67, 68, 69, 70, 71, 72, 73] (by decide +kernel) (by decide +kernel)
set_option maxRecDepth 20000 in
theorem gX5_count_X5_treeOf : GoodIn wsX5_count (wsV RX5 47 RX5 yX5_treeOf wsX5_treeOf) := goodIn_app (goodIn_of _ (by decide +kernel)) ggX5_count_X5_treeOf
set_option maxRecDepth 20000 in
theorem ggX5_count_X3_keysHeld : GoodIn wsX5_count wsX3_keysHeld := goodIn_r _ [19, 20, 21, 22, 23, 18, 24, 25, 58, 59, 60, 61, 62, 63, 64] (by decide +kernel) (by decide +kernel)
set_option maxRecDepth 20000 in
theorem gX5_count_X3_keysHeld : GoodIn wsX5_count (wsV RX5 127 RX3 yX3_keysHeld wsX3_keysHeld) := goodIn_app (goodIn_of _ (by decide +kernel)) ggX5_count_X3_keysHeld
set_option maxRecDepth 20000 in
theorem ggX5_count_X3_greatestDepth : GoodIn wsX5_count wsX3_greatestDepth := goodIn_r _ [29, 30, 31, 32, 33, 34, 35, 36, 18, 37, 38, 39, 40, 41, 21, 22, 23, 24, 25, 42, 43, 44, 45, 46, 47, 12, 48, 58, 59, 60, 61, 62, 63, 64] (by decide +kernel) (by decide +kernel)
set_option maxRecDepth 20000 in
theorem gX5_count_X3_greatestDepth : GoodIn wsX5_count (wsV RX5 133 RX3 yX3_greatestDepth wsX3_greatestDepth) := goodIn_app (goodIn_of _ (by decide +kernel)) ggX5_count_X3_greatestDepth
set_option maxRecDepth 20000 in
theorem ggX5_count_X3_potential : GoodIn wsX5_count wsX3_potential := goodIn_r _ [52, 21, 22, 23, 18, 24, 25, 58, 59, 60, 61, 62, 63, 64] (by decide +kernel) (by decide +kernel)
set_option maxRecDepth 20000 in
theorem gX5_count_X3_potential : GoodIn wsX5_count (wsV RX5 145 RX3 yX3_potential wsX3_potential) := goodIn_app (goodIn_of _ (by decide +kernel)) ggX5_count_X3_potential
theorem dX5_count_0 : decode cX5_count 0 = .ok (.aload_n 0, 1) := by decide +kernel
theorem dX5_count_1 : decode cX5_count 1 = .ok (.iload_n 1, 1) := by decide +kernel
theorem dX5_count_2 : decode cX5_count 2 = .ok (.invokevirtual 47, 3) := by decide +kernel
theorem dX5_count_5 : decode cX5_count 5 = .ok (.astore_n 3, 1) := by decide +kernel
theorem dX5_count_6 : decode cX5_count 6 = .ok (.aload_n 3, 1) := by decide +kernel
theorem dX5_count_7 : decode cX5_count 7 = .ok (.ifnonnull 5, 3) := by decide +kernel
theorem dX5_count_10 : decode cX5_count 10 = .ok (.iconst (-1), 1) := by decide +kernel
theorem dX5_count_11 : decode cX5_count 11 = .ok (.ireturn, 1) := by decide +kernel
theorem dX5_count_12 : decode cX5_count 12 = .ok (.iload_n 2, 1) := by decide +kernel
theorem dX5_count_13 : decode cX5_count 13 = .ok (.tableswitch 114 0 8 #[51, 56, 64, 72, 80, 88, 93, 101, 109], 51) := by decide +kernel
theorem dX5_count_64 : decode cX5_count 64 = .ok (.aload_n 3, 1) := by decide +kernel
theorem dX5_count_65 : decode cX5_count 65 = .ok (.getfield 80, 3) := by decide +kernel
theorem dX5_count_68 : decode cX5_count 68 = .ok (.ireturn, 1) := by decide +kernel
theorem dX5_count_69 : decode cX5_count 69 = .ok (.aload_n 3, 1) := by decide +kernel
theorem dX5_count_70 : decode cX5_count 70 = .ok (.getfield 55, 3) := by decide +kernel
theorem dX5_count_73 : decode cX5_count 73 = .ok (.invokevirtual 127, 3) := by decide +kernel
theorem dX5_count_76 : decode cX5_count 76 = .ok (.ireturn, 1) := by decide +kernel
theorem dX5_count_77 : decode cX5_count 77 = .ok (.aload_n 3, 1) := by decide +kernel
theorem dX5_count_78 : decode cX5_count 78 = .ok (.getfield 55, 3) := by decide +kernel
theorem dX5_count_81 : decode cX5_count 81 = .ok (.getfield 130, 3) := by decide +kernel
theorem dX5_count_84 : decode cX5_count 84 = .ok (.ireturn, 1) := by decide +kernel
theorem dX5_count_85 : decode cX5_count 85 = .ok (.aload_n 3, 1) := by decide +kernel
theorem dX5_count_86 : decode cX5_count 86 = .ok (.getfield 55, 3) := by decide +kernel
theorem dX5_count_89 : decode cX5_count 89 = .ok (.invokevirtual 133, 3) := by decide +kernel
theorem dX5_count_92 : decode cX5_count 92 = .ok (.ireturn, 1) := by decide +kernel
theorem dX5_count_93 : decode cX5_count 93 = .ok (.aload_n 3, 1) := by decide +kernel
theorem dX5_count_94 : decode cX5_count 94 = .ok (.getfield 55, 3) := by decide +kernel
theorem dX5_count_97 : decode cX5_count 97 = .ok (.getfield 136, 3) := by decide +kernel
theorem dX5_count_100 : decode cX5_count 100 = .ok (.ireturn, 1) := by decide +kernel
theorem dX5_count_101 : decode cX5_count 101 = .ok (.aload_n 3, 1) := by decide +kernel
theorem dX5_count_102 : decode cX5_count 102 = .ok (.getfield 139, 3) := by decide +kernel
theorem dX5_count_105 : decode cX5_count 105 = .ok (.ireturn, 1) := by decide +kernel
theorem dX5_count_106 : decode cX5_count 106 = .ok (.aload_n 3, 1) := by decide +kernel
theorem dX5_count_107 : decode cX5_count 107 = .ok (.getfield 98, 3) := by decide +kernel
theorem dX5_count_110 : decode cX5_count 110 = .ok (.getfield 142, 3) := by decide +kernel
theorem dX5_count_113 : decode cX5_count 113 = .ok (.ireturn, 1) := by decide +kernel
theorem dX5_count_114 : decode cX5_count 114 = .ok (.aload_n 3, 1) := by decide +kernel
theorem dX5_count_115 : decode cX5_count 115 = .ok (.getfield 55, 3) := by decide +kernel
theorem dX5_count_118 : decode cX5_count 118 = .ok (.invokevirtual 145, 3) := by decide +kernel
theorem dX5_count_121 : decode cX5_count 121 = .ok (.ireturn, 1) := by decide +kernel
theorem dX5_count_122 : decode cX5_count 122 = .ok (.aload_n 3, 1) := by decide +kernel
theorem dX5_count_123 : decode cX5_count 123 = .ok (.getfield 148, 3) := by decide +kernel
theorem dX5_count_126 : decode cX5_count 126 = .ok (.ireturn, 1) := by decide +kernel
theorem dX5_count_127 : decode cX5_count 127 = .ok (.iconst (-1), 1) := by decide +kernel
theorem dX5_count_128 : decode cX5_count 128 = .ok (.ireturn, 1) := by decide +kernel
set_option maxRecDepth 20000 in
theorem ggX5_best_X5_treeOf : GoodIn wsX5_best wsX5_treeOf := goodIn_r _ [10, 11, 69, 70, 71, 72, 73, 74, 75] (by decide +kernel) (by decide +kernel)
set_option maxRecDepth 20000 in
theorem gX5_best_X5_treeOf : GoodIn wsX5_best (wsV RX5 47 RX5 yX5_treeOf wsX5_treeOf) := goodIn_app (goodIn_of _ (by decide +kernel)) ggX5_best_X5_treeOf
set_option maxRecDepth 20000 in
theorem ggX5_best_X0_workOut : GoodIn wsX5_best wsX0_workOut := goodIn_r _ [16, 17, 18, 19, 20, 21, 22, 23, 24, 15, 25, 26, 27, 28, 29, 30, 31, 32, 33, 34, 35, 36, 37, 38, 9, 39, 40, 41, 42, 43, 44, 45, 46, 47, 48, 49, 50, 51, 52, 53, 54, 55, 56, 57, 58, 59, 60, 61, 62, 63, 64, 65, 66, 67, 68, 81, 82, 83, 84, 85, 86, 87, 88, 89, 90, 91, 92, 93, 94, 95, 96] (by decide +kernel) (by decide +kernel)
set_option maxRecDepth 20000 in
theorem gX5_best_X0_workOut : GoodIn wsX5_best (wsV RX5 151 RX0 yX0_workOut wsX0_workOut) := goodIn_app (goodIn_of _ (by decide +kernel)) ggX5_best_X0_workOut
theorem dX5_best_0 : decode cX5_best 0 = .ok (.aload_n 0, 1) := by decide +kernel
theorem dX5_best_1 : decode cX5_best 1 = .ok (.iload_n 1, 1) := by decide +kernel
theorem dX5_best_2 : decode cX5_best 2 = .ok (.invokevirtual 47, 3) := by decide +kernel
theorem dX5_best_5 : decode cX5_best 5 = .ok (.astore_n 3, 1) := by decide +kernel
theorem dX5_best_6 : decode cX5_best 6 = .ok (.aload_n 3, 1) := by decide +kernel
theorem dX5_best_7 : decode cX5_best 7 = .ok (.ifnull 12, 3) := by decide +kernel
theorem dX5_best_10 : decode cX5_best 10 = .ok (.iload_n 2, 1) := by decide +kernel
theorem dX5_best_11 : decode cX5_best 11 = .ok (.ifCond .lt 8, 3) := by decide +kernel
theorem dX5_best_14 : decode cX5_best 14 = .ok (.iload_n 2, 1) := by decide +kernel
theorem dX5_best_15 : decode cX5_best 15 = .ok (.iconst 1, 1) := by decide +kernel
theorem dX5_best_16 : decode cX5_best 16 = .ok (.if_icmp .le 5, 3) := by decide +kernel
theorem dX5_best_19 : decode cX5_best 19 = .ok (.iconst (-1), 1) := by decide +kernel
theorem dX5_best_20 : decode cX5_best 20 = .ok (.ireturn, 1) := by decide +kernel
theorem dX5_best_21 : decode cX5_best 21 = .ok (.aload_n 0, 1) := by decide +kernel
theorem dX5_best_22 : decode cX5_best 22 = .ok (.getfield 39, 3) := by decide +kernel
theorem dX5_best_25 : decode cX5_best 25 = .ok (.aload_n 3, 1) := by decide +kernel
theorem dX5_best_26 : decode cX5_best 26 = .ok (.getfield 55, 3) := by decide +kernel
theorem dX5_best_29 : decode cX5_best 29 = .ok (.aload_n 3, 1) := by decide +kernel
theorem dX5_best_30 : decode cX5_best 30 = .ok (.getfield 98, 3) := by decide +kernel
theorem dX5_best_33 : decode cX5_best 33 = .ok (.invokevirtual 151, 3) := by decide +kernel
theorem dX5_best_36 : decode cX5_best 36 = .ok (.iload_n 2, 1) := by decide +kernel
theorem dX5_best_37 : decode cX5_best 37 = .ok (.ifCond .ne 13, 3) := by decide +kernel
theorem dX5_best_40 : decode cX5_best 40 = .ok (.aload_n 0, 1) := by decide +kernel
theorem dX5_best_41 : decode cX5_best 41 = .ok (.getfield 39, 3) := by decide +kernel
theorem dX5_best_44 : decode cX5_best 44 = .ok (.getfield 155, 3) := by decide +kernel
theorem dX5_best_47 : decode cX5_best 47 = .ok (.goto 10, 3) := by decide +kernel
theorem dX5_best_50 : decode cX5_best 50 = .ok (.aload_n 0, 1) := by decide +kernel
theorem dX5_best_51 : decode cX5_best 51 = .ok (.getfield 39, 3) := by decide +kernel
theorem dX5_best_54 : decode cX5_best 54 = .ok (.getfield 158, 3) := by decide +kernel
theorem dX5_best_57 : decode cX5_best 57 = .ok (.ireturn, 1) := by decide +kernel
set_option maxRecDepth 20000 in
theorem ggX5_interleave_X5_treeOf : GoodIn wsX5_interleave wsX5_treeOf := goodIn_r _ [7, 8, 37, 38, 39, 40, 41, 42, 43] (by decide +kernel) (by decide +kernel)
set_option maxRecDepth 20000 in
theorem gX5_interleave_X5_treeOf : GoodIn wsX5_interleave (wsV RX5 47 RX5 yX5_treeOf wsX5_treeOf) := goodIn_app (goodIn_of _ (by decide +kernel)) ggX5_interleave_X5_treeOf
set_option maxRecDepth 20000 in
theorem ggX5_interleave_X2_changesOfHalf : GoodIn wsX5_interleave wsX2_changesOfHalf := goodIn_r _ [13, 14, 15, 16, 17, 18, 19, 20, 12, 21, 22, 23, 24, 25, 26, 27, 28, 6, 29, 30, 31, 44, 45] (by decide +kernel) (by decide +kernel)
set_option maxRecDepth 20000 in
theorem gX5_interleave_X2_changesOfHalf : GoodIn wsX5_interleave (wsV RX5 159 RX2 yX2_changesOfHalf wsX2_changesOfHalf) := goodIn_app (goodIn_of _ (by decide +kernel)) ggX5_interleave_X2_changesOfHalf
theorem dX5_interleave_0 : decode cX5_interleave 0 = .ok (.aload_n 0, 1) := by decide +kernel
theorem dX5_interleave_1 : decode cX5_interleave 1 = .ok (.iload_n 1, 1) := by decide +kernel
theorem dX5_interleave_2 : decode cX5_interleave 2 = .ok (.invokevirtual 47, 3) := by decide +kernel
theorem dX5_interleave_5 : decode cX5_interleave 5 = .ok (.astore_n 2, 1) := by decide +kernel
theorem dX5_interleave_6 : decode cX5_interleave 6 = .ok (.aload_n 2, 1) := by decide +kernel
theorem dX5_interleave_7 : decode cX5_interleave 7 = .ok (.ifnonnull 7, 3) := by decide +kernel
theorem dX5_interleave_10 : decode cX5_interleave 10 = .ok (.iconst (-1), 1) := by decide +kernel
theorem dX5_interleave_11 : decode cX5_interleave 11 = .ok (.goto 14, 3) := by decide +kernel
theorem dX5_interleave_14 : decode cX5_interleave 14 = .ok (.aload_n 2, 1) := by decide +kernel
theorem dX5_interleave_15 : decode cX5_interleave 15 = .ok (.getfield 98, 3) := by decide +kernel
theorem dX5_interleave_18 : decode cX5_interleave 18 = .ok (.aload_n 0, 1) := by decide +kernel
theorem dX5_interleave_19 : decode cX5_interleave 19 = .ok (.getfield 26, 3) := by decide +kernel
theorem dX5_interleave_22 : decode cX5_interleave 22 = .ok (.invokevirtual 159, 3) := by decide +kernel
theorem dX5_interleave_25 : decode cX5_interleave 25 = .ok (.ireturn, 1) := by decide +kernel
set_option maxRecDepth 20000 in
theorem ggX5_sweep_X5_treeOf : GoodIn wsX5_sweep wsX5_treeOf := goodIn_r _ [7, 8, 36, 37, 38, 39, 40, 41, 42] (by decide +kernel) (by decide +kernel)
set_option maxRecDepth 20000 in
theorem gX5_sweep_X5_treeOf : GoodIn wsX5_sweep (wsV RX5 47 RX5 yX5_treeOf wsX5_treeOf) := goodIn_app (goodIn_of _ (by decide +kernel)) ggX5_sweep_X5_treeOf
set_option maxRecDepth 20000 in
theorem ggX5_sweep_X2_touches : GoodIn wsX5_sweep wsX2_touches := goodIn_r _ [13, 14, 15, 16, 17, 18, 19, 20, 21, 12, 22, 23, 24, 6, 25, 26, 27, 28, 29, 30, 43, 44] (by decide +kernel) (by decide +kernel)
set_option maxRecDepth 20000 in
theorem gX5_sweep_X2_touches : GoodIn wsX5_sweep (wsV RX5 163 RX2 yX2_touches wsX2_touches) := goodIn_app (goodIn_of _ (by decide +kernel)) ggX5_sweep_X2_touches
theorem dX5_sweep_0 : decode cX5_sweep 0 = .ok (.aload_n 0, 1) := by decide +kernel
theorem dX5_sweep_1 : decode cX5_sweep 1 = .ok (.iload_n 1, 1) := by decide +kernel
theorem dX5_sweep_2 : decode cX5_sweep 2 = .ok (.invokevirtual 47, 3) := by decide +kernel
theorem dX5_sweep_5 : decode cX5_sweep 5 = .ok (.astore_n 2, 1) := by decide +kernel
theorem dX5_sweep_6 : decode cX5_sweep 6 = .ok (.aload_n 2, 1) := by decide +kernel
theorem dX5_sweep_7 : decode cX5_sweep 7 = .ok (.ifnonnull 7, 3) := by decide +kernel
theorem dX5_sweep_10 : decode cX5_sweep 10 = .ok (.iconst (-1), 1) := by decide +kernel
theorem dX5_sweep_11 : decode cX5_sweep 11 = .ok (.goto 14, 3) := by decide +kernel
theorem dX5_sweep_14 : decode cX5_sweep 14 = .ok (.aload_n 2, 1) := by decide +kernel
theorem dX5_sweep_15 : decode cX5_sweep 15 = .ok (.getfield 98, 3) := by decide +kernel
theorem dX5_sweep_18 : decode cX5_sweep 18 = .ok (.aload_n 0, 1) := by decide +kernel
theorem dX5_sweep_19 : decode cX5_sweep 19 = .ok (.getfield 26, 3) := by decide +kernel
theorem dX5_sweep_22 : decode cX5_sweep 22 = .ok (.invokevirtual 163, 3) := by decide +kernel
theorem dX5_sweep_25 : decode cX5_sweep 25 = .ok (.ireturn, 1) := by decide +kernel
set_option maxRecDepth 20000 in
theorem ggX5_pages_X5_treeOf : GoodIn wsX5_pages wsX5_treeOf := goodIn_r _ [7, 8, 67, 68, 69, 70, 71, 72, 73] (by decide +kernel) (by decide +kernel)
set_option maxRecDepth 20000 in
theorem gX5_pages_X5_treeOf : GoodIn wsX5_pages (wsV RX5 47 RX5 yX5_treeOf wsX5_treeOf) := goodIn_app (goodIn_of _ (by decide +kernel)) ggX5_pages_X5_treeOf
set_option maxRecDepth 20000 in
theorem ggX5_pages_X3_holds : GoodIn wsX5_pages wsX3_holds := goodIn_r _ [13, 14, 15, 16, 12, 17, 18, 74, 75, 76, 77, 78, 79, 80] (by decide +kernel) (by decide +kernel)
set_option maxRecDepth 20000 in
theorem gX5_pages_X3_holds : GoodIn wsX5_pages (wsV RX5 59 RX3 yX3_holds wsX3_holds) := goodIn_app (goodIn_of _ (by decide +kernel)) ggX5_pages_X3_holds
set_option maxRecDepth 20000 in
theorem ggX5_pages_X1_countOnWay : GoodIn wsX5_pages wsX1_countOnWay := goodIn_r _ [23, 24, 25, 26, 27, 22, 28, 29, 30, 31, 32, 33, 34, 35, 6, 36, 37, 38, 39, 40, 41, 12, 42, 43, 44, 45, 46, 47, 48, 49, 50, 51, 52, 53, 54, 55, 56, 57, 58, 59, 60, 61, 74, 75, 76, 77, 78, 79, 80, 81, 82] (by decide +kernel) (by decide +kernel)
set_option maxRecDepth 20000 in
theorem gX5_pages_X1_countOnWay : GoodIn wsX5_pages (wsV RX5 166 RX1 yX1_countOnWay wsX1_countOnWay) := goodIn_app (goodIn_of _ (by decide +kernel)) ggX5_pages_X1_countOnWay
theorem dX5_pages_0 : decode cX5_pages 0 = .ok (.aload_n 0, 1) := by decide +kernel
theorem dX5_pages_1 : decode cX5_pages 1 = .ok (.iload_n 1, 1) := by decide +kernel
theorem dX5_pages_2 : decode cX5_pages 2 = .ok (.invokevirtual 47, 3) := by decide +kernel
theorem dX5_pages_5 : decode cX5_pages 5 = .ok (.astore 4, 2) := by decide +kernel
theorem dX5_pages_7 : decode cX5_pages 7 = .ok (.aload 4, 2) := by decide +kernel
theorem dX5_pages_9 : decode cX5_pages 9 = .ok (.ifnull 26, 3) := by decide +kernel
theorem dX5_pages_12 : decode cX5_pages 12 = .ok (.iload_n 2, 1) := by decide +kernel
theorem dX5_pages_13 : decode cX5_pages 13 = .ok (.iconst 1, 1) := by decide +kernel
theorem dX5_pages_14 : decode cX5_pages 14 = .ok (.if_icmp .lt 21, 3) := by decide +kernel
theorem dX5_pages_17 : decode cX5_pages 17 = .ok (.iload_n 2, 1) := by decide +kernel
theorem dX5_pages_18 : decode cX5_pages 18 = .ok (.bipush 16, 2) := by decide +kernel
theorem dX5_pages_20 : decode cX5_pages 20 = .ok (.if_icmp .gt 15, 3) := by decide +kernel
theorem dX5_pages_23 : decode cX5_pages 23 = .ok (.aload 4, 2) := by decide +kernel
theorem dX5_pages_25 : decode cX5_pages 25 = .ok (.getfield 55, 3) := by decide +kernel
theorem dX5_pages_28 : decode cX5_pages 28 = .ok (.iload_n 3, 1) := by decide +kernel
theorem dX5_pages_29 : decode cX5_pages 29 = .ok (.invokevirtual 59, 3) := by decide +kernel
theorem dX5_pages_32 : decode cX5_pages 32 = .ok (.ifCond .ne 5, 3) := by decide +kernel
theorem dX5_pages_35 : decode cX5_pages 35 = .ok (.iconst (-1), 1) := by decide +kernel
theorem dX5_pages_36 : decode cX5_pages 36 = .ok (.ireturn, 1) := by decide +kernel
theorem dX5_pages_37 : decode cX5_pages 37 = .ok (.aload_n 0, 1) := by decide +kernel
theorem dX5_pages_38 : decode cX5_pages 38 = .ok (.getfield 32, 3) := by decide +kernel
theorem dX5_pages_41 : decode cX5_pages 41 = .ok (.aload 4, 2) := by decide +kernel
theorem dX5_pages_43 : decode cX5_pages 43 = .ok (.getfield 55, 3) := by decide +kernel
theorem dX5_pages_46 : decode cX5_pages 46 = .ok (.iload_n 2, 1) := by decide +kernel
theorem dX5_pages_47 : decode cX5_pages 47 = .ok (.iload_n 3, 1) := by decide +kernel
theorem dX5_pages_48 : decode cX5_pages 48 = .ok (.invokevirtual 166, 3) := by decide +kernel
theorem dX5_pages_51 : decode cX5_pages 51 = .ok (.ireturn, 1) := by decide +kernel
set_option maxRecDepth 20000 in
theorem ggX5_keep_X5_treeOf : GoodIn wsX5_keep wsX5_treeOf := goodIn_r _ [8, 9, 34, 35, 36, 37, 38, 39, 40] (by decide +kernel) (by decide +kernel)
set_option maxRecDepth 20000 in
theorem gX5_keep_X5_treeOf : GoodIn wsX5_keep (wsV RX5 47 RX5 yX5_treeOf wsX5_treeOf) := goodIn_app (goodIn_of _ (by decide +kernel)) ggX5_keep_X5_treeOf
set_option maxRecDepth 20000 in
theorem ggX5_keep_X3_depthOf : GoodIn wsX5_keep wsX3_depthOf := goodIn_r _ [14, 15, 16, 17, 13, 18, 19, 20, 21, 22, 23, 24, 25, 26, 27, 28, 29, 7, 30, 46, 47, 48, 49, 50, 51, 52] (by decide +kernel) (by decide +kernel)
set_option maxRecDepth 20000 in
theorem gX5_keep_X3_depthOf : GoodIn wsX5_keep (wsV RX5 110 RX3 yX3_depthOf wsX3_depthOf) := goodIn_app (goodIn_of _ (by decide +kernel)) ggX5_keep_X3_depthOf
set_option maxRecDepth 20000 in
theorem ggX5_keep_X5_put : GoodIn wsX5_keep wsX5_put := goodIn_r _ [33] (by decide +kernel) (by decide +kernel)
set_option maxRecDepth 20000 in
theorem gX5_keep_X5_put : GoodIn wsX5_keep (va_wsS RX5 170 yX5_put wsX5_put) := goodIn_app (goodIn_of _ (by decide +kernel)) ggX5_keep_X5_put
theorem dX5_keep_0 : decode cX5_keep 0 = .ok (.aload_n 0, 1) := by decide +kernel
theorem dX5_keep_1 : decode cX5_keep 1 = .ok (.iload_n 1, 1) := by decide +kernel
theorem dX5_keep_2 : decode cX5_keep 2 = .ok (.invokevirtual 47, 3) := by decide +kernel
theorem dX5_keep_5 : decode cX5_keep 5 = .ok (.astore_n 2, 1) := by decide +kernel
theorem dX5_keep_6 : decode cX5_keep 6 = .ok (.aload_n 2, 1) := by decide +kernel
theorem dX5_keep_7 : decode cX5_keep 7 = .ok (.ifnull 12, 3) := by decide +kernel
theorem dX5_keep_10 : decode cX5_keep 10 = .ok (.aload_n 0, 1) := by decide +kernel
theorem dX5_keep_11 : decode cX5_keep 11 = .ok (.getfield 23, 3) := by decide +kernel
theorem dX5_keep_14 : decode cX5_keep 14 = .ok (.bipush 20, 2) := by decide +kernel
theorem dX5_keep_16 : decode cX5_keep 16 = .ok (.if_icmp .lt 5, 3) := by decide +kernel
theorem dX5_keep_19 : decode cX5_keep 19 = .ok (.iconst (-1), 1) := by decide +kernel
theorem dX5_keep_20 : decode cX5_keep 20 = .ok (.ireturn, 1) := by decide +kernel
theorem dX5_keep_21 : decode cX5_keep 21 = .ok (.iconst 0, 1) := by decide +kernel
theorem dX5_keep_22 : decode cX5_keep 22 = .ok (.istore_n 3, 1) := by decide +kernel
theorem dX5_keep_23 : decode cX5_keep 23 = .ok (.iload_n 3, 1) := by decide +kernel
theorem dX5_keep_24 : decode cX5_keep 24 = .ok (.bipush 64, 2) := by decide +kernel
theorem dX5_keep_26 : decode cX5_keep 26 = .ok (.if_icmp .ge 33, 3) := by decide +kernel
theorem dX5_keep_29 : decode cX5_keep 29 = .ok (.aload_n 0, 1) := by decide +kernel
theorem dX5_keep_30 : decode cX5_keep 30 = .ok (.getfield 19, 3) := by decide +kernel
theorem dX5_keep_33 : decode cX5_keep 33 = .ok (.aload_n 0, 1) := by decide +kernel
theorem dX5_keep_34 : decode cX5_keep 34 = .ok (.getfield 23, 3) := by decide +kernel
theorem dX5_keep_37 : decode cX5_keep 37 = .ok (.bipush 64, 2) := by decide +kernel
theorem dX5_keep_39 : decode cX5_keep 39 = .ok (.imul, 1) := by decide +kernel
theorem dX5_keep_40 : decode cX5_keep 40 = .ok (.iload_n 3, 1) := by decide +kernel
theorem dX5_keep_41 : decode cX5_keep 41 = .ok (.iadd, 1) := by decide +kernel
theorem dX5_keep_42 : decode cX5_keep 42 = .ok (.aload_n 2, 1) := by decide +kernel
theorem dX5_keep_43 : decode cX5_keep 43 = .ok (.getfield 55, 3) := by decide +kernel
theorem dX5_keep_46 : decode cX5_keep 46 = .ok (.iload_n 3, 1) := by decide +kernel
theorem dX5_keep_47 : decode cX5_keep 47 = .ok (.invokevirtual 110, 3) := by decide +kernel
theorem dX5_keep_50 : decode cX5_keep 50 = .ok (.invokestatic 170, 3) := by decide +kernel
theorem dX5_keep_53 : decode cX5_keep 53 = .ok (.iinc 3 1, 3) := by decide +kernel
theorem dX5_keep_56 : decode cX5_keep 56 = .ok (.goto (-33), 3) := by decide +kernel
theorem dX5_keep_59 : decode cX5_keep 59 = .ok (.aload_n 0, 1) := by decide +kernel
theorem dX5_keep_60 : decode cX5_keep 60 = .ok (.dup, 1) := by decide +kernel
theorem dX5_keep_61 : decode cX5_keep 61 = .ok (.getfield 23, 3) := by decide +kernel
theorem dX5_keep_64 : decode cX5_keep 64 = .ok (.iconst 1, 1) := by decide +kernel
theorem dX5_keep_65 : decode cX5_keep 65 = .ok (.iadd, 1) := by decide +kernel
theorem dX5_keep_66 : decode cX5_keep 66 = .ok (.putfield 23, 3) := by decide +kernel
theorem dX5_keep_69 : decode cX5_keep 69 = .ok (.aload_n 0, 1) := by decide +kernel
theorem dX5_keep_70 : decode cX5_keep 70 = .ok (.getfield 23, 3) := by decide +kernel
theorem dX5_keep_73 : decode cX5_keep 73 = .ok (.iconst 1, 1) := by decide +kernel
theorem dX5_keep_74 : decode cX5_keep 74 = .ok (.isub, 1) := by decide +kernel
theorem dX5_keep_75 : decode cX5_keep 75 = .ok (.ireturn, 1) := by decide +kernel
set_option maxRecDepth 20000 in
theorem ggX5_kept_X5_isKey : GoodIn wsX5_kept wsX5_isKey := goodIn_r _ [6] (by decide +kernel) (by decide +kernel)
set_option maxRecDepth 20000 in
theorem gX5_kept_X5_isKey : GoodIn wsX5_kept (va_wsS RX5 51 yX5_isKey wsX5_isKey) := goodIn_app (goodIn_of _ (by decide +kernel)) ggX5_kept_X5_isKey
set_option maxRecDepth 20000 in
theorem ggX5_kept_X5_at : GoodIn wsX5_kept wsX5_at := goodIn_r _ [9] (by decide +kernel) (by decide +kernel)
set_option maxRecDepth 20000 in
theorem gX5_kept_X5_at : GoodIn wsX5_kept (va_wsS RX5 174 yX5_at wsX5_at) := goodIn_app (goodIn_of _ (by decide +kernel)) ggX5_kept_X5_at
theorem dX5_kept_0 : decode cX5_kept 0 = .ok (.iload_n 1, 1) := by decide +kernel
theorem dX5_kept_1 : decode cX5_kept 1 = .ok (.ifCond .lt 18, 3) := by decide +kernel
theorem dX5_kept_4 : decode cX5_kept 4 = .ok (.iload_n 1, 1) := by decide +kernel
theorem dX5_kept_5 : decode cX5_kept 5 = .ok (.aload_n 0, 1) := by decide +kernel
theorem dX5_kept_6 : decode cX5_kept 6 = .ok (.getfield 23, 3) := by decide +kernel
theorem dX5_kept_9 : decode cX5_kept 9 = .ok (.if_icmp .ge 10, 3) := by decide +kernel
theorem dX5_kept_12 : decode cX5_kept 12 = .ok (.iload_n 2, 1) := by decide +kernel
theorem dX5_kept_13 : decode cX5_kept 13 = .ok (.invokestatic 51, 3) := by decide +kernel
theorem dX5_kept_16 : decode cX5_kept 16 = .ok (.ifCond .ne 5, 3) := by decide +kernel
theorem dX5_kept_19 : decode cX5_kept 19 = .ok (.iconst (-1), 1) := by decide +kernel
theorem dX5_kept_20 : decode cX5_kept 20 = .ok (.ireturn, 1) := by decide +kernel
theorem dX5_kept_21 : decode cX5_kept 21 = .ok (.aload_n 0, 1) := by decide +kernel
theorem dX5_kept_22 : decode cX5_kept 22 = .ok (.getfield 19, 3) := by decide +kernel
theorem dX5_kept_25 : decode cX5_kept 25 = .ok (.iload_n 1, 1) := by decide +kernel
theorem dX5_kept_26 : decode cX5_kept 26 = .ok (.bipush 64, 2) := by decide +kernel
theorem dX5_kept_28 : decode cX5_kept 28 = .ok (.imul, 1) := by decide +kernel
theorem dX5_kept_29 : decode cX5_kept 29 = .ok (.iload_n 2, 1) := by decide +kernel
theorem dX5_kept_30 : decode cX5_kept 30 = .ok (.iadd, 1) := by decide +kernel
theorem dX5_kept_31 : decode cX5_kept 31 = .ok (.invokestatic 174, 3) := by decide +kernel
theorem dX5_kept_34 : decode cX5_kept 34 = .ok (.ireturn, 1) := by decide +kernel
set_option maxRecDepth 20000 in
theorem ggX5_newTree_X4_init : GoodIn wsX5_newTree wsX4_init := goodIn_r _ [8, 9, 10, 11, 12, 13, 14, 15, 16, 17, 18, 19, 20, 21, 22, 23, 24, 25, 26, 27, 28, 29, 30, 31, 32, 33, 34, 35, 36, 37, 38, 39, 40, 41, 42, 43, 44, 52, 53, 54, 55, 56, 57, 58, 59, 60, 61, 62, 63, 64, 65] (by decide +kernel) (by decide +kernel)
set_option maxRecDepth 20000 in
theorem gX5_newTree_X4_init : GoodIn wsX5_newTree (wsX4_init) := ggX5_newTree_X4_init
theorem dX5_newTree_0 : decode cX5_newTree 0 = .ok (.aload_n 0, 1) := by decide +kernel
theorem dX5_newTree_1 : decode cX5_newTree 1 = .ok (.getfield 15, 3) := by decide +kernel
theorem dX5_newTree_4 : decode cX5_newTree 4 = .ok (.ifCond .lt 15, 3) := by decide +kernel
theorem dX5_newTree_7 : decode cX5_newTree 7 = .ok (.aload_n 0, 1) := by decide +kernel
theorem dX5_newTree_8 : decode cX5_newTree 8 = .ok (.getfield 15, 3) := by decide +kernel
theorem dX5_newTree_11 : decode cX5_newTree 11 = .ok (.aload_n 0, 1) := by decide +kernel
theorem dX5_newTree_12 : decode cX5_newTree 12 = .ok (.getfield 11, 3) := by decide +kernel
theorem dX5_newTree_15 : decode cX5_newTree 15 = .ok (.arraylength, 1) := by decide +kernel
theorem dX5_newTree_16 : decode cX5_newTree 16 = .ok (.if_icmp .lt 5, 3) := by decide +kernel
theorem dX5_newTree_19 : decode cX5_newTree 19 = .ok (.iconst (-1), 1) := by decide +kernel
theorem dX5_newTree_20 : decode cX5_newTree 20 = .ok (.ireturn, 1) := by decide +kernel
theorem dX5_newTree_21 : decode cX5_newTree 21 = .ok (.aload_n 0, 1) := by decide +kernel
theorem dX5_newTree_22 : decode cX5_newTree 22 = .ok (.getfield 11, 3) := by decide +kernel
theorem dX5_newTree_25 : decode cX5_newTree 25 = .ok (.aload_n 0, 1) := by decide +kernel
theorem dX5_newTree_26 : decode cX5_newTree 26 = .ok (.getfield 15, 3) := by decide +kernel
theorem dX5_newTree_29 : decode cX5_newTree 29 = .ok (.new 9, 3) := by decide +kernel
theorem dX5_newTree_32 : decode cX5_newTree 32 = .ok (.dup, 1) := by decide +kernel
theorem dX5_newTree_33 : decode cX5_newTree 33 = .ok (.iload_n 1, 1) := by decide +kernel
theorem dX5_newTree_34 : decode cX5_newTree 34 = .ok (.invokespecial 178, 3) := by decide +kernel
theorem dX5_newTree_37 : decode cX5_newTree 37 = .ok (.aastore, 1) := by decide +kernel
theorem dX5_newTree_38 : decode cX5_newTree 38 = .ok (.aload_n 0, 1) := by decide +kernel
theorem dX5_newTree_39 : decode cX5_newTree 39 = .ok (.dup, 1) := by decide +kernel
theorem dX5_newTree_40 : decode cX5_newTree 40 = .ok (.getfield 15, 3) := by decide +kernel
theorem dX5_newTree_43 : decode cX5_newTree 43 = .ok (.iconst 1, 1) := by decide +kernel
theorem dX5_newTree_44 : decode cX5_newTree 44 = .ok (.iadd, 1) := by decide +kernel
theorem dX5_newTree_45 : decode cX5_newTree 45 = .ok (.putfield 15, 3) := by decide +kernel
theorem dX5_newTree_48 : decode cX5_newTree 48 = .ok (.aload_n 0, 1) := by decide +kernel
theorem dX5_newTree_49 : decode cX5_newTree 49 = .ok (.getfield 15, 3) := by decide +kernel
theorem dX5_newTree_52 : decode cX5_newTree 52 = .ok (.iconst 1, 1) := by decide +kernel
theorem dX5_newTree_53 : decode cX5_newTree 53 = .ok (.isub, 1) := by decide +kernel
theorem dX5_newTree_54 : decode cX5_newTree 54 = .ok (.ireturn, 1) := by decide +kernel
theorem dX5_treeOf_0 : decode cX5_treeOf 0 = .ok (.iload_n 1, 1) := by decide +kernel
theorem dX5_treeOf_1 : decode cX5_treeOf 1 = .ok (.ifCond .lt 21, 3) := by decide +kernel
theorem dX5_treeOf_4 : decode cX5_treeOf 4 = .ok (.iload_n 1, 1) := by decide +kernel
theorem dX5_treeOf_5 : decode cX5_treeOf 5 = .ok (.aload_n 0, 1) := by decide +kernel
theorem dX5_treeOf_6 : decode cX5_treeOf 6 = .ok (.getfield 11, 3) := by decide +kernel
theorem dX5_treeOf_9 : decode cX5_treeOf 9 = .ok (.arraylength, 1) := by decide +kernel
theorem dX5_treeOf_10 : decode cX5_treeOf 10 = .ok (.if_icmp .ge 12, 3) := by decide +kernel
theorem dX5_treeOf_13 : decode cX5_treeOf 13 = .ok (.aload_n 0, 1) := by decide +kernel
theorem dX5_treeOf_14 : decode cX5_treeOf 14 = .ok (.getfield 11, 3) := by decide +kernel
theorem dX5_treeOf_17 : decode cX5_treeOf 17 = .ok (.iload_n 1, 1) := by decide +kernel
theorem dX5_treeOf_18 : decode cX5_treeOf 18 = .ok (.aaload, 1) := by decide +kernel
theorem dX5_treeOf_19 : decode cX5_treeOf 19 = .ok (.goto 4, 3) := by decide +kernel
theorem dX5_treeOf_22 : decode cX5_treeOf 22 = .ok (.aconst_null, 1) := by decide +kernel
theorem dX5_treeOf_23 : decode cX5_treeOf 23 = .ok (.areturn, 1) := by decide +kernel
theorem dX5_isKey_0 : decode cX5_isKey 0 = .ok (.iload_n 0, 1) := by decide +kernel
theorem dX5_isKey_1 : decode cX5_isKey 1 = .ok (.ifCond .lt 13, 3) := by decide +kernel
theorem dX5_isKey_4 : decode cX5_isKey 4 = .ok (.iload_n 0, 1) := by decide +kernel
theorem dX5_isKey_5 : decode cX5_isKey 5 = .ok (.bipush 64, 2) := by decide +kernel
theorem dX5_isKey_7 : decode cX5_isKey 7 = .ok (.if_icmp .ge 7, 3) := by decide +kernel
theorem dX5_isKey_10 : decode cX5_isKey 10 = .ok (.iconst 1, 1) := by decide +kernel
theorem dX5_isKey_11 : decode cX5_isKey 11 = .ok (.goto 4, 3) := by decide +kernel
theorem dX5_isKey_14 : decode cX5_isKey 14 = .ok (.iconst 0, 1) := by decide +kernel
theorem dX5_isKey_15 : decode cX5_isKey 15 = .ok (.ireturn, 1) := by decide +kernel
theorem dX5_weight_0 : decode cX5_weight 0 = .ok (.bipush 37, 2) := by decide +kernel
theorem dX5_weight_2 : decode cX5_weight 2 = .ok (.iload_n 0, 1) := by decide +kernel
theorem dX5_weight_3 : decode cX5_weight 3 = .ok (.imul, 1) := by decide +kernel
theorem dX5_weight_4 : decode cX5_weight 4 = .ok (.bipush 11, 2) := by decide +kernel
theorem dX5_weight_6 : decode cX5_weight 6 = .ok (.iadd, 1) := by decide +kernel
theorem dX5_weight_7 : decode cX5_weight 7 = .ok (.bipush 63, 2) := by decide +kernel
theorem dX5_weight_9 : decode cX5_weight 9 = .ok (.iand, 1) := by decide +kernel
theorem dX5_weight_10 : decode cX5_weight 10 = .ok (.ireturn, 1) := by decide +kernel
theorem dX5_at_0 : decode cX5_at 0 = .ok (.iload_n 1, 1) := by decide +kernel
theorem dX5_at_1 : decode cX5_at 1 = .ok (.ifCond .lt 15, 3) := by decide +kernel
theorem dX5_at_4 : decode cX5_at 4 = .ok (.iload_n 1, 1) := by decide +kernel
theorem dX5_at_5 : decode cX5_at 5 = .ok (.aload_n 0, 1) := by decide +kernel
theorem dX5_at_6 : decode cX5_at 6 = .ok (.arraylength, 1) := by decide +kernel
theorem dX5_at_7 : decode cX5_at 7 = .ok (.if_icmp .ge 9, 3) := by decide +kernel
theorem dX5_at_10 : decode cX5_at 10 = .ok (.aload_n 0, 1) := by decide +kernel
theorem dX5_at_11 : decode cX5_at 11 = .ok (.iload_n 1, 1) := by decide +kernel
theorem dX5_at_12 : decode cX5_at 12 = .ok (.iaload, 1) := by decide +kernel
theorem dX5_at_13 : decode cX5_at 13 = .ok (.goto 4, 3) := by decide +kernel
theorem dX5_at_16 : decode cX5_at 16 = .ok (.iconst (-1), 1) := by decide +kernel
theorem dX5_at_17 : decode cX5_at 17 = .ok (.ireturn, 1) := by decide +kernel
theorem dX5_put_0 : decode cX5_put 0 = .ok (.iload_n 1, 1) := by decide +kernel
theorem dX5_put_1 : decode cX5_put 1 = .ok (.ifCond .lt 13, 3) := by decide +kernel
theorem dX5_put_4 : decode cX5_put 4 = .ok (.iload_n 1, 1) := by decide +kernel
theorem dX5_put_5 : decode cX5_put 5 = .ok (.aload_n 0, 1) := by decide +kernel
theorem dX5_put_6 : decode cX5_put 6 = .ok (.arraylength, 1) := by decide +kernel
theorem dX5_put_7 : decode cX5_put 7 = .ok (.if_icmp .ge 7, 3) := by decide +kernel
theorem dX5_put_10 : decode cX5_put 10 = .ok (.aload_n 0, 1) := by decide +kernel
theorem dX5_put_11 : decode cX5_put 11 = .ok (.iload_n 1, 1) := by decide +kernel
theorem dX5_put_12 : decode cX5_put 12 = .ok (.iload_n 2, 1) := by decide +kernel
theorem dX5_put_13 : decode cX5_put 13 = .ok (.iastore, 1) := by decide +kernel
theorem dX5_put_14 : decode cX5_put 14 = .ok (.return_, 1) := by decide +kernel
theorem dX6_init_0 : decode cX6_init 0 = .ok (.aload_n 0, 1) := by decide +kernel
theorem dX6_init_1 : decode cX6_init 1 = .ok (.invokespecial 1, 3) := by decide +kernel
theorem dX6_init_4 : decode cX6_init 4 = .ok (.aload_n 0, 1) := by decide +kernel
theorem dX6_init_5 : decode cX6_init 5 = .ok (.bipush 8, 2) := by decide +kernel
theorem dX6_init_7 : decode cX6_init 7 = .ok (.newarray .int, 2) := by decide +kernel
theorem dX6_init_9 : decode cX6_init 9 = .ok (.putfield 7, 3) := by decide +kernel
theorem dX6_init_12 : decode cX6_init 12 = .ok (.aload_n 0, 1) := by decide +kernel
theorem dX6_init_13 : decode cX6_init 13 = .ok (.bipush 8, 2) := by decide +kernel
theorem dX6_init_15 : decode cX6_init 15 = .ok (.newarray .int, 2) := by decide +kernel
theorem dX6_init_17 : decode cX6_init 17 = .ok (.putfield 13, 3) := by decide +kernel
theorem dX6_init_20 : decode cX6_init 20 = .ok (.aload_n 0, 1) := by decide +kernel
theorem dX6_init_21 : decode cX6_init 21 = .ok (.sipush 512, 3) := by decide +kernel
theorem dX6_init_24 : decode cX6_init 24 = .ok (.newarray .int, 2) := by decide +kernel
theorem dX6_init_26 : decode cX6_init 26 = .ok (.putfield 16, 3) := by decide +kernel
theorem dX6_init_29 : decode cX6_init 29 = .ok (.aload_n 0, 1) := by decide +kernel
theorem dX6_init_30 : decode cX6_init 30 = .ok (.sipush 512, 3) := by decide +kernel
theorem dX6_init_33 : decode cX6_init 33 = .ok (.newarray .int, 2) := by decide +kernel
theorem dX6_init_35 : decode cX6_init 35 = .ok (.putfield 19, 3) := by decide +kernel
theorem dX6_init_38 : decode cX6_init 38 = .ok (.aload_n 0, 1) := by decide +kernel
theorem dX6_init_39 : decode cX6_init 39 = .ok (.sipush 512, 3) := by decide +kernel
theorem dX6_init_42 : decode cX6_init 42 = .ok (.newarray .int, 2) := by decide +kernel
theorem dX6_init_44 : decode cX6_init 44 = .ok (.putfield 22, 3) := by decide +kernel
theorem dX6_init_47 : decode cX6_init 47 = .ok (.aload_n 0, 1) := by decide +kernel
theorem dX6_init_48 : decode cX6_init 48 = .ok (.sipush 512, 3) := by decide +kernel
theorem dX6_init_51 : decode cX6_init 51 = .ok (.newarray .boolean, 2) := by decide +kernel
theorem dX6_init_53 : decode cX6_init 53 = .ok (.putfield 25, 3) := by decide +kernel
theorem dX6_init_56 : decode cX6_init 56 = .ok (.aload_n 0, 1) := by decide +kernel
theorem dX6_init_57 : decode cX6_init 57 = .ok (.bipush 8, 2) := by decide +kernel
theorem dX6_init_59 : decode cX6_init 59 = .ok (.newarray .int, 2) := by decide +kernel
theorem dX6_init_61 : decode cX6_init 61 = .ok (.putfield 29, 3) := by decide +kernel
theorem dX6_init_64 : decode cX6_init 64 = .ok (.aload_n 0, 1) := by decide +kernel
theorem dX6_init_65 : decode cX6_init 65 = .ok (.bipush 8, 2) := by decide +kernel
theorem dX6_init_67 : decode cX6_init 67 = .ok (.newarray .int, 2) := by decide +kernel
theorem dX6_init_69 : decode cX6_init 69 = .ok (.putfield 32, 3) := by decide +kernel
theorem dX6_init_72 : decode cX6_init 72 = .ok (.aload_n 0, 1) := by decide +kernel
theorem dX6_init_73 : decode cX6_init 73 = .ok (.bipush 8, 2) := by decide +kernel
theorem dX6_init_75 : decode cX6_init 75 = .ok (.newarray .int, 2) := by decide +kernel
theorem dX6_init_77 : decode cX6_init 77 = .ok (.putfield 35, 3) := by decide +kernel
theorem dX6_init_80 : decode cX6_init 80 = .ok (.aload_n 0, 1) := by decide +kernel
theorem dX6_init_81 : decode cX6_init 81 = .ok (.bipush 8, 2) := by decide +kernel
theorem dX6_init_83 : decode cX6_init 83 = .ok (.newarray .int, 2) := by decide +kernel
theorem dX6_init_85 : decode cX6_init 85 = .ok (.putfield 38, 3) := by decide +kernel
theorem dX6_init_88 : decode cX6_init 88 = .ok (.aload_n 0, 1) := by decide +kernel
theorem dX6_init_89 : decode cX6_init 89 = .ok (.bipush 8, 2) := by decide +kernel
theorem dX6_init_91 : decode cX6_init 91 = .ok (.newarray .int, 2) := by decide +kernel
theorem dX6_init_93 : decode cX6_init 93 = .ok (.putfield 41, 3) := by decide +kernel
theorem dX6_init_96 : decode cX6_init 96 = .ok (.aload_n 0, 1) := by decide +kernel
theorem dX6_init_97 : decode cX6_init 97 = .ok (.sipush 800, 3) := by decide +kernel
theorem dX6_init_100 : decode cX6_init 100 = .ok (.newarray .int, 2) := by decide +kernel
theorem dX6_init_102 : decode cX6_init 102 = .ok (.putfield 44, 3) := by decide +kernel
theorem dX6_init_105 : decode cX6_init 105 = .ok (.aload_n 0, 1) := by decide +kernel
theorem dX6_init_106 : decode cX6_init 106 = .ok (.bipush 64, 2) := by decide +kernel
theorem dX6_init_108 : decode cX6_init 108 = .ok (.newarray .int, 2) := by decide +kernel
theorem dX6_init_110 : decode cX6_init 110 = .ok (.putfield 47, 3) := by decide +kernel
theorem dX6_init_113 : decode cX6_init 113 = .ok (.aload_n 0, 1) := by decide +kernel
theorem dX6_init_114 : decode cX6_init 114 = .ok (.bipush 64, 2) := by decide +kernel
theorem dX6_init_116 : decode cX6_init 116 = .ok (.newarray .int, 2) := by decide +kernel
theorem dX6_init_118 : decode cX6_init 118 = .ok (.putfield 50, 3) := by decide +kernel
theorem dX6_init_121 : decode cX6_init 121 = .ok (.aload_n 0, 1) := by decide +kernel
theorem dX6_init_122 : decode cX6_init 122 = .ok (.bipush 64, 2) := by decide +kernel
theorem dX6_init_124 : decode cX6_init 124 = .ok (.newarray .int, 2) := by decide +kernel
theorem dX6_init_126 : decode cX6_init 126 = .ok (.putfield 53, 3) := by decide +kernel
theorem dX6_init_129 : decode cX6_init 129 = .ok (.aload_n 0, 1) := by decide +kernel
theorem dX6_init_130 : decode cX6_init 130 = .ok (.sipush 4290, 3) := by decide +kernel
theorem dX6_init_133 : decode cX6_init 133 = .ok (.newarray .int, 2) := by decide +kernel
theorem dX6_init_135 : decode cX6_init 135 = .ok (.putfield 56, 3) := by decide +kernel
theorem dX6_init_138 : decode cX6_init 138 = .ok (.aload_n 0, 1) := by decide +kernel
theorem dX6_init_139 : decode cX6_init 139 = .ok (.sipush 4290, 3) := by decide +kernel
theorem dX6_init_142 : decode cX6_init 142 = .ok (.newarray .int, 2) := by decide +kernel
theorem dX6_init_144 : decode cX6_init 144 = .ok (.putfield 59, 3) := by decide +kernel
theorem dX6_init_147 : decode cX6_init 147 = .ok (.aload_n 0, 1) := by decide +kernel
theorem dX6_init_148 : decode cX6_init 148 = .ok (.bipush 64, 2) := by decide +kernel
theorem dX6_init_150 : decode cX6_init 150 = .ok (.newarray .int, 2) := by decide +kernel
theorem dX6_init_152 : decode cX6_init 152 = .ok (.putfield 62, 3) := by decide +kernel
theorem dX6_init_155 : decode cX6_init 155 = .ok (.aload_n 0, 1) := by decide +kernel
theorem dX6_init_156 : decode cX6_init 156 = .ok (.bipush 64, 2) := by decide +kernel
theorem dX6_init_158 : decode cX6_init 158 = .ok (.newarray .boolean, 2) := by decide +kernel
theorem dX6_init_160 : decode cX6_init 160 = .ok (.putfield 65, 3) := by decide +kernel
theorem dX6_init_163 : decode cX6_init 163 = .ok (.aload_n 0, 1) := by decide +kernel
theorem dX6_init_164 : decode cX6_init 164 = .ok (.bipush 64, 2) := by decide +kernel
theorem dX6_init_166 : decode cX6_init 166 = .ok (.newarray .int, 2) := by decide +kernel
theorem dX6_init_168 : decode cX6_init 168 = .ok (.putfield 68, 3) := by decide +kernel
theorem dX6_init_171 : decode cX6_init 171 = .ok (.aload_n 0, 1) := by decide +kernel
theorem dX6_init_172 : decode cX6_init 172 = .ok (.bipush 64, 2) := by decide +kernel
theorem dX6_init_174 : decode cX6_init 174 = .ok (.newarray .int, 2) := by decide +kernel
theorem dX6_init_176 : decode cX6_init 176 = .ok (.putfield 71, 3) := by decide +kernel
theorem dX6_init_179 : decode cX6_init 179 = .ok (.aload_n 0, 1) := by decide +kernel
theorem dX6_init_180 : decode cX6_init 180 = .ok (.sipush 1280, 3) := by decide +kernel
theorem dX6_init_183 : decode cX6_init 183 = .ok (.newarray .int, 2) := by decide +kernel
theorem dX6_init_185 : decode cX6_init 185 = .ok (.putfield 74, 3) := by decide +kernel
theorem dX6_init_188 : decode cX6_init 188 = .ok (.return_, 1) := by decide +kernel
theorem dX6_thrown_0 : decode cX6_thrown 0 = .ok (.aload_n 0, 1) := by decide +kernel
theorem dX6_thrown_1 : decode cX6_thrown 1 = .ok (.getfield 77, 3) := by decide +kernel
theorem dX6_thrown_4 : decode cX6_thrown 4 = .ok (.ireturn, 1) := by decide +kernel
theorem dX6_isTree_0 : decode cX6_isTree 0 = .ok (.iload_n 1, 1) := by decide +kernel
theorem dX6_isTree_1 : decode cX6_isTree 1 = .ok (.ifCond .lt 15, 3) := by decide +kernel
theorem dX6_isTree_4 : decode cX6_isTree 4 = .ok (.iload_n 1, 1) := by decide +kernel
theorem dX6_isTree_5 : decode cX6_isTree 5 = .ok (.aload_n 0, 1) := by decide +kernel
theorem dX6_isTree_6 : decode cX6_isTree 6 = .ok (.getfield 81, 3) := by decide +kernel
theorem dX6_isTree_9 : decode cX6_isTree 9 = .ok (.if_icmp .ge 7, 3) := by decide +kernel
theorem dX6_isTree_12 : decode cX6_isTree 12 = .ok (.iconst 1, 1) := by decide +kernel
theorem dX6_isTree_13 : decode cX6_isTree 13 = .ok (.goto 4, 3) := by decide +kernel
theorem dX6_isTree_16 : decode cX6_isTree 16 = .ok (.iconst 0, 1) := by decide +kernel
theorem dX6_isTree_17 : decode cX6_isTree 17 = .ok (.ireturn, 1) := by decide +kernel
theorem dX6_isKey_0 : decode cX6_isKey 0 = .ok (.iload_n 0, 1) := by decide +kernel
theorem dX6_isKey_1 : decode cX6_isKey 1 = .ok (.ifCond .lt 13, 3) := by decide +kernel
theorem dX6_isKey_4 : decode cX6_isKey 4 = .ok (.iload_n 0, 1) := by decide +kernel
theorem dX6_isKey_5 : decode cX6_isKey 5 = .ok (.bipush 64, 2) := by decide +kernel
theorem dX6_isKey_7 : decode cX6_isKey 7 = .ok (.if_icmp .ge 7, 3) := by decide +kernel
theorem dX6_isKey_10 : decode cX6_isKey 10 = .ok (.iconst 1, 1) := by decide +kernel
theorem dX6_isKey_11 : decode cX6_isKey 11 = .ok (.goto 4, 3) := by decide +kernel
theorem dX6_isKey_14 : decode cX6_isKey 14 = .ok (.iconst 0, 1) := by decide +kernel
theorem dX6_isKey_15 : decode cX6_isKey 15 = .ok (.ireturn, 1) := by decide +kernel
set_option maxRecDepth 20000 in
theorem ggX6_tree_X6_newTree : GoodIn wsX6_tree wsX6_newTree := goodIn_r _ [7, 8, 2, 9, 10, 11, 12, 13, 14, 15, 16, 17, 18, 19, 20, 21, 22, 23, 24, 25, 26, 27, 28, 29, 30, 31, 32, 33, 34, 35, 36, 37] (by decide +kernel) (by decide +kernel)
set_option maxRecDepth 20000 in
theorem gX6_tree_X6_newTree : GoodIn wsX6_tree (wsV RX6 84 RX6 yX6_newTree wsX6_newTree) := goodIn_app (goodIn_of _ (by decide +kernel)) ggX6_tree_X6_newTree
theorem dX6_tree_0 : decode cX6_tree 0 = .ok (.aload_n 0, 1) := by decide +kernel
theorem dX6_tree_1 : decode cX6_tree 1 = .ok (.iconst 0, 1) := by decide +kernel
theorem dX6_tree_2 : decode cX6_tree 2 = .ok (.putfield 77, 3) := by decide +kernel
theorem dX6_tree_5 : decode cX6_tree 5 = .ok (.iload_n 1, 1) := by decide +kernel
theorem dX6_tree_6 : decode cX6_tree 6 = .ok (.ifCond .lt 17, 3) := by decide +kernel
theorem dX6_tree_9 : decode cX6_tree 9 = .ok (.iload_n 1, 1) := by decide +kernel
theorem dX6_tree_10 : decode cX6_tree 10 = .ok (.iconst 5, 1) := by decide +kernel
theorem dX6_tree_11 : decode cX6_tree 11 = .ok (.if_icmp .gt 12, 3) := by decide +kernel
theorem dX6_tree_14 : decode cX6_tree 14 = .ok (.aload_n 0, 1) := by decide +kernel
theorem dX6_tree_15 : decode cX6_tree 15 = .ok (.getfield 81, 3) := by decide +kernel
theorem dX6_tree_18 : decode cX6_tree 18 = .ok (.bipush 8, 2) := by decide +kernel
theorem dX6_tree_20 : decode cX6_tree 20 = .ok (.if_icmp .ne 5, 3) := by decide +kernel
theorem dX6_tree_23 : decode cX6_tree 23 = .ok (.iconst (-1), 1) := by decide +kernel
theorem dX6_tree_24 : decode cX6_tree 24 = .ok (.ireturn, 1) := by decide +kernel
theorem dX6_tree_25 : decode cX6_tree 25 = .ok (.aload_n 0, 1) := by decide +kernel
theorem dX6_tree_26 : decode cX6_tree 26 = .ok (.iload_n 1, 1) := by decide +kernel
theorem dX6_tree_27 : decode cX6_tree 27 = .ok (.invokevirtual 84, 3) := by decide +kernel
theorem dX6_tree_30 : decode cX6_tree 30 = .ok (.ireturn, 1) := by decide +kernel
theorem dX6_newTree_0 : decode cX6_newTree 0 = .ok (.aload_n 0, 1) := by decide +kernel
theorem dX6_newTree_1 : decode cX6_newTree 1 = .ok (.getfield 7, 3) := by decide +kernel
theorem dX6_newTree_4 : decode cX6_newTree 4 = .ok (.aload_n 0, 1) := by decide +kernel
theorem dX6_newTree_5 : decode cX6_newTree 5 = .ok (.getfield 81, 3) := by decide +kernel
theorem dX6_newTree_8 : decode cX6_newTree 8 = .ok (.iload_n 1, 1) := by decide +kernel
theorem dX6_newTree_9 : decode cX6_newTree 9 = .ok (.iastore, 1) := by decide +kernel
theorem dX6_newTree_10 : decode cX6_newTree 10 = .ok (.aload_n 0, 1) := by decide +kernel
theorem dX6_newTree_11 : decode cX6_newTree 11 = .ok (.getfield 13, 3) := by decide +kernel
theorem dX6_newTree_14 : decode cX6_newTree 14 = .ok (.aload_n 0, 1) := by decide +kernel
theorem dX6_newTree_15 : decode cX6_newTree 15 = .ok (.getfield 81, 3) := by decide +kernel
theorem dX6_newTree_18 : decode cX6_newTree 18 = .ok (.iconst (-1), 1) := by decide +kernel
theorem dX6_newTree_19 : decode cX6_newTree 19 = .ok (.iastore, 1) := by decide +kernel
theorem dX6_newTree_20 : decode cX6_newTree 20 = .ok (.aload_n 0, 1) := by decide +kernel
theorem dX6_newTree_21 : decode cX6_newTree 21 = .ok (.dup, 1) := by decide +kernel
theorem dX6_newTree_22 : decode cX6_newTree 22 = .ok (.getfield 81, 3) := by decide +kernel
theorem dX6_newTree_25 : decode cX6_newTree 25 = .ok (.iconst 1, 1) := by decide +kernel
theorem dX6_newTree_26 : decode cX6_newTree 26 = .ok (.iadd, 1) := by decide +kernel
theorem dX6_newTree_27 : decode cX6_newTree 27 = .ok (.putfield 81, 3) := by decide +kernel
theorem dX6_newTree_30 : decode cX6_newTree 30 = .ok (.aload_n 0, 1) := by decide +kernel
theorem dX6_newTree_31 : decode cX6_newTree 31 = .ok (.getfield 81, 3) := by decide +kernel
theorem dX6_newTree_34 : decode cX6_newTree 34 = .ok (.iconst 1, 1) := by decide +kernel
theorem dX6_newTree_35 : decode cX6_newTree 35 = .ok (.isub, 1) := by decide +kernel
theorem dX6_newTree_36 : decode cX6_newTree 36 = .ok (.ireturn, 1) := by decide +kernel
theorem dX6_weight_0 : decode cX6_weight 0 = .ok (.bipush 37, 2) := by decide +kernel
theorem dX6_weight_2 : decode cX6_weight 2 = .ok (.iload_n 0, 1) := by decide +kernel
theorem dX6_weight_3 : decode cX6_weight 3 = .ok (.imul, 1) := by decide +kernel
theorem dX6_weight_4 : decode cX6_weight 4 = .ok (.bipush 11, 2) := by decide +kernel
theorem dX6_weight_6 : decode cX6_weight 6 = .ok (.iadd, 1) := by decide +kernel
theorem dX6_weight_7 : decode cX6_weight 7 = .ok (.bipush 64, 2) := by decide +kernel
theorem dX6_weight_9 : decode cX6_weight 9 = .ok (.irem, 1) := by decide +kernel
theorem dX6_weight_10 : decode cX6_weight 10 = .ok (.ireturn, 1) := by decide +kernel
set_option maxRecDepth 20000 in
theorem ggX6_sizeOf_X6_sizeOf : GoodIn wsX6_sizeOf wsX6_sizeOf := goodIn_r _ [0, 1, 2, 3, 4, 5, 6, 7, 8, 9, 10, 11, 12, 13, 14, 15, 16, 17, 18, 19, 20, 21, 22, 23, 24, 25, 26, 27, 28, 29, 30, 31, 32, 33, 34] (by decide +kernel) (by decide +kernel)
set_option maxRecDepth 20000 in
theorem gX6_sizeOf_X6_sizeOf : GoodIn wsX6_sizeOf (wsV RX6 88 RX6 yX6_sizeOf wsX6_sizeOf) := goodIn_app (goodIn_of _ (by decide +kernel)) ggX6_sizeOf_X6_sizeOf
theorem dX6_sizeOf_0 : decode cX6_sizeOf 0 = .ok (.iload_n 2, 1) := by decide +kernel
theorem dX6_sizeOf_1 : decode cX6_sizeOf 1 = .ok (.ifCond .ge 7, 3) := by decide +kernel
theorem dX6_sizeOf_4 : decode cX6_sizeOf 4 = .ok (.iconst 0, 1) := by decide +kernel
theorem dX6_sizeOf_5 : decode cX6_sizeOf 5 = .ok (.goto 38, 3) := by decide +kernel
theorem dX6_sizeOf_8 : decode cX6_sizeOf 8 = .ok (.iconst 1, 1) := by decide +kernel
theorem dX6_sizeOf_9 : decode cX6_sizeOf 9 = .ok (.aload_n 0, 1) := by decide +kernel
theorem dX6_sizeOf_10 : decode cX6_sizeOf 10 = .ok (.iload_n 1, 1) := by decide +kernel
theorem dX6_sizeOf_11 : decode cX6_sizeOf 11 = .ok (.aload_n 0, 1) := by decide +kernel
theorem dX6_sizeOf_12 : decode cX6_sizeOf 12 = .ok (.getfield 19, 3) := by decide +kernel
theorem dX6_sizeOf_15 : decode cX6_sizeOf 15 = .ok (.bipush 64, 2) := by decide +kernel
theorem dX6_sizeOf_17 : decode cX6_sizeOf 17 = .ok (.iload_n 1, 1) := by decide +kernel
theorem dX6_sizeOf_18 : decode cX6_sizeOf 18 = .ok (.imul, 1) := by decide +kernel
theorem dX6_sizeOf_19 : decode cX6_sizeOf 19 = .ok (.iload_n 2, 1) := by decide +kernel
theorem dX6_sizeOf_20 : decode cX6_sizeOf 20 = .ok (.iadd, 1) := by decide +kernel
theorem dX6_sizeOf_21 : decode cX6_sizeOf 21 = .ok (.iaload, 1) := by decide +kernel
theorem dX6_sizeOf_22 : decode cX6_sizeOf 22 = .ok (.invokevirtual 88, 3) := by decide +kernel
theorem dX6_sizeOf_25 : decode cX6_sizeOf 25 = .ok (.iadd, 1) := by decide +kernel
theorem dX6_sizeOf_26 : decode cX6_sizeOf 26 = .ok (.aload_n 0, 1) := by decide +kernel
theorem dX6_sizeOf_27 : decode cX6_sizeOf 27 = .ok (.iload_n 1, 1) := by decide +kernel
theorem dX6_sizeOf_28 : decode cX6_sizeOf 28 = .ok (.aload_n 0, 1) := by decide +kernel
theorem dX6_sizeOf_29 : decode cX6_sizeOf 29 = .ok (.getfield 22, 3) := by decide +kernel
theorem dX6_sizeOf_32 : decode cX6_sizeOf 32 = .ok (.bipush 64, 2) := by decide +kernel
theorem dX6_sizeOf_34 : decode cX6_sizeOf 34 = .ok (.iload_n 1, 1) := by decide +kernel
theorem dX6_sizeOf_35 : decode cX6_sizeOf 35 = .ok (.imul, 1) := by decide +kernel
theorem dX6_sizeOf_36 : decode cX6_sizeOf 36 = .ok (.iload_n 2, 1) := by decide +kernel
theorem dX6_sizeOf_37 : decode cX6_sizeOf 37 = .ok (.iadd, 1) := by decide +kernel
theorem dX6_sizeOf_38 : decode cX6_sizeOf 38 = .ok (.iaload, 1) := by decide +kernel
theorem dX6_sizeOf_39 : decode cX6_sizeOf 39 = .ok (.invokevirtual 88, 3) := by decide +kernel
theorem dX6_sizeOf_42 : decode cX6_sizeOf 42 = .ok (.iadd, 1) := by decide +kernel
theorem dX6_sizeOf_43 : decode cX6_sizeOf 43 = .ok (.ireturn, 1) := by decide +kernel
theorem dX6_depthOf_0 : decode cX6_depthOf 0 = .ok (.iconst 1, 1) := by decide +kernel
theorem dX6_depthOf_1 : decode cX6_depthOf 1 = .ok (.istore_n 3, 1) := by decide +kernel
theorem dX6_depthOf_2 : decode cX6_depthOf 2 = .ok (.aload_n 0, 1) := by decide +kernel
theorem dX6_depthOf_3 : decode cX6_depthOf 3 = .ok (.getfield 16, 3) := by decide +kernel
theorem dX6_depthOf_6 : decode cX6_depthOf 6 = .ok (.bipush 64, 2) := by decide +kernel
theorem dX6_depthOf_8 : decode cX6_depthOf 8 = .ok (.iload_n 1, 1) := by decide +kernel
theorem dX6_depthOf_9 : decode cX6_depthOf 9 = .ok (.imul, 1) := by decide +kernel
theorem dX6_depthOf_10 : decode cX6_depthOf 10 = .ok (.iload_n 2, 1) := by decide +kernel
theorem dX6_depthOf_11 : decode cX6_depthOf 11 = .ok (.iadd, 1) := by decide +kernel
theorem dX6_depthOf_12 : decode cX6_depthOf 12 = .ok (.iaload, 1) := by decide +kernel
theorem dX6_depthOf_13 : decode cX6_depthOf 13 = .ok (.istore 4, 2) := by decide +kernel
theorem dX6_depthOf_15 : decode cX6_depthOf 15 = .ok (.iload 4, 2) := by decide +kernel
theorem dX6_depthOf_17 : decode cX6_depthOf 17 = .ok (.ifCond .lt 23, 3) := by decide +kernel
theorem dX6_depthOf_20 : decode cX6_depthOf 20 = .ok (.iinc 3 1, 3) := by decide +kernel
theorem dX6_depthOf_23 : decode cX6_depthOf 23 = .ok (.aload_n 0, 1) := by decide +kernel
theorem dX6_depthOf_24 : decode cX6_depthOf 24 = .ok (.getfield 16, 3) := by decide +kernel
theorem dX6_depthOf_27 : decode cX6_depthOf 27 = .ok (.bipush 64, 2) := by decide +kernel
theorem dX6_depthOf_29 : decode cX6_depthOf 29 = .ok (.iload_n 1, 1) := by decide +kernel
theorem dX6_depthOf_30 : decode cX6_depthOf 30 = .ok (.imul, 1) := by decide +kernel
theorem dX6_depthOf_31 : decode cX6_depthOf 31 = .ok (.iload 4, 2) := by decide +kernel
theorem dX6_depthOf_33 : decode cX6_depthOf 33 = .ok (.iadd, 1) := by decide +kernel
theorem dX6_depthOf_34 : decode cX6_depthOf 34 = .ok (.iaload, 1) := by decide +kernel
theorem dX6_depthOf_35 : decode cX6_depthOf 35 = .ok (.istore 4, 2) := by decide +kernel
theorem dX6_depthOf_37 : decode cX6_depthOf 37 = .ok (.goto (-22), 3) := by decide +kernel
theorem dX6_depthOf_40 : decode cX6_depthOf 40 = .ok (.iload_n 3, 1) := by decide +kernel
theorem dX6_depthOf_41 : decode cX6_depthOf 41 = .ok (.ireturn, 1) := by decide +kernel
theorem dX6_takesPlace_0 : decode cX6_takesPlace 0 = .ok (.aload_n 0, 1) := by decide +kernel
theorem dX6_takesPlace_1 : decode cX6_takesPlace 1 = .ok (.getfield 16, 3) := by decide +kernel
theorem dX6_takesPlace_4 : decode cX6_takesPlace 4 = .ok (.bipush 64, 2) := by decide +kernel
theorem dX6_takesPlace_6 : decode cX6_takesPlace 6 = .ok (.iload_n 1, 1) := by decide +kernel
theorem dX6_takesPlace_7 : decode cX6_takesPlace 7 = .ok (.imul, 1) := by decide +kernel
theorem dX6_takesPlace_8 : decode cX6_takesPlace 8 = .ok (.iload_n 2, 1) := by decide +kernel
theorem dX6_takesPlace_9 : decode cX6_takesPlace 9 = .ok (.iadd, 1) := by decide +kernel
theorem dX6_takesPlace_10 : decode cX6_takesPlace 10 = .ok (.iaload, 1) := by decide +kernel
theorem dX6_takesPlace_11 : decode cX6_takesPlace 11 = .ok (.istore 4, 2) := by decide +kernel
theorem dX6_takesPlace_13 : decode cX6_takesPlace 13 = .ok (.iload 4, 2) := by decide +kernel
theorem dX6_takesPlace_15 : decode cX6_takesPlace 15 = .ok (.ifCond .ge 13, 3) := by decide +kernel
theorem dX6_takesPlace_18 : decode cX6_takesPlace 18 = .ok (.aload_n 0, 1) := by decide +kernel
theorem dX6_takesPlace_19 : decode cX6_takesPlace 19 = .ok (.getfield 13, 3) := by decide +kernel
theorem dX6_takesPlace_22 : decode cX6_takesPlace 22 = .ok (.iload_n 1, 1) := by decide +kernel
theorem dX6_takesPlace_23 : decode cX6_takesPlace 23 = .ok (.iload_n 3, 1) := by decide +kernel
theorem dX6_takesPlace_24 : decode cX6_takesPlace 24 = .ok (.iastore, 1) := by decide +kernel
theorem dX6_takesPlace_25 : decode cX6_takesPlace 25 = .ok (.goto 48, 3) := by decide +kernel
theorem dX6_takesPlace_28 : decode cX6_takesPlace 28 = .ok (.aload_n 0, 1) := by decide +kernel
theorem dX6_takesPlace_29 : decode cX6_takesPlace 29 = .ok (.getfield 19, 3) := by decide +kernel
theorem dX6_takesPlace_32 : decode cX6_takesPlace 32 = .ok (.bipush 64, 2) := by decide +kernel
theorem dX6_takesPlace_34 : decode cX6_takesPlace 34 = .ok (.iload_n 1, 1) := by decide +kernel
theorem dX6_takesPlace_35 : decode cX6_takesPlace 35 = .ok (.imul, 1) := by decide +kernel
theorem dX6_takesPlace_36 : decode cX6_takesPlace 36 = .ok (.iload 4, 2) := by decide +kernel
theorem dX6_takesPlace_38 : decode cX6_takesPlace 38 = .ok (.iadd, 1) := by decide +kernel
theorem dX6_takesPlace_39 : decode cX6_takesPlace 39 = .ok (.iaload, 1) := by decide +kernel
theorem dX6_takesPlace_40 : decode cX6_takesPlace 40 = .ok (.iload_n 2, 1) := by decide +kernel
theorem dX6_takesPlace_41 : decode cX6_takesPlace 41 = .ok (.if_icmp .ne 19, 3) := by decide +kernel
theorem dX6_takesPlace_44 : decode cX6_takesPlace 44 = .ok (.aload_n 0, 1) := by decide +kernel
theorem dX6_takesPlace_45 : decode cX6_takesPlace 45 = .ok (.getfield 19, 3) := by decide +kernel
theorem dX6_takesPlace_48 : decode cX6_takesPlace 48 = .ok (.bipush 64, 2) := by decide +kernel
theorem dX6_takesPlace_50 : decode cX6_takesPlace 50 = .ok (.iload_n 1, 1) := by decide +kernel
theorem dX6_takesPlace_51 : decode cX6_takesPlace 51 = .ok (.imul, 1) := by decide +kernel
theorem dX6_takesPlace_52 : decode cX6_takesPlace 52 = .ok (.iload 4, 2) := by decide +kernel
theorem dX6_takesPlace_54 : decode cX6_takesPlace 54 = .ok (.iadd, 1) := by decide +kernel
theorem dX6_takesPlace_55 : decode cX6_takesPlace 55 = .ok (.iload_n 3, 1) := by decide +kernel
theorem dX6_takesPlace_56 : decode cX6_takesPlace 56 = .ok (.iastore, 1) := by decide +kernel
theorem dX6_takesPlace_57 : decode cX6_takesPlace 57 = .ok (.goto 16, 3) := by decide +kernel
theorem dX6_takesPlace_60 : decode cX6_takesPlace 60 = .ok (.aload_n 0, 1) := by decide +kernel
theorem dX6_takesPlace_61 : decode cX6_takesPlace 61 = .ok (.getfield 22, 3) := by decide +kernel
theorem dX6_takesPlace_64 : decode cX6_takesPlace 64 = .ok (.bipush 64, 2) := by decide +kernel
theorem dX6_takesPlace_66 : decode cX6_takesPlace 66 = .ok (.iload_n 1, 1) := by decide +kernel
theorem dX6_takesPlace_67 : decode cX6_takesPlace 67 = .ok (.imul, 1) := by decide +kernel
theorem dX6_takesPlace_68 : decode cX6_takesPlace 68 = .ok (.iload 4, 2) := by decide +kernel
theorem dX6_takesPlace_70 : decode cX6_takesPlace 70 = .ok (.iadd, 1) := by decide +kernel
theorem dX6_takesPlace_71 : decode cX6_takesPlace 71 = .ok (.iload_n 3, 1) := by decide +kernel
theorem dX6_takesPlace_72 : decode cX6_takesPlace 72 = .ok (.iastore, 1) := by decide +kernel
theorem dX6_takesPlace_73 : decode cX6_takesPlace 73 = .ok (.iload_n 3, 1) := by decide +kernel
theorem dX6_takesPlace_74 : decode cX6_takesPlace 74 = .ok (.ifCond .lt 16, 3) := by decide +kernel
theorem dX6_takesPlace_77 : decode cX6_takesPlace 77 = .ok (.aload_n 0, 1) := by decide +kernel
theorem dX6_takesPlace_78 : decode cX6_takesPlace 78 = .ok (.getfield 16, 3) := by decide +kernel
theorem dX6_takesPlace_81 : decode cX6_takesPlace 81 = .ok (.bipush 64, 2) := by decide +kernel
theorem dX6_takesPlace_83 : decode cX6_takesPlace 83 = .ok (.iload_n 1, 1) := by decide +kernel
theorem dX6_takesPlace_84 : decode cX6_takesPlace 84 = .ok (.imul, 1) := by decide +kernel
theorem dX6_takesPlace_85 : decode cX6_takesPlace 85 = .ok (.iload_n 3, 1) := by decide +kernel
theorem dX6_takesPlace_86 : decode cX6_takesPlace 86 = .ok (.iadd, 1) := by decide +kernel
theorem dX6_takesPlace_87 : decode cX6_takesPlace 87 = .ok (.iload 4, 2) := by decide +kernel
theorem dX6_takesPlace_89 : decode cX6_takesPlace 89 = .ok (.iastore, 1) := by decide +kernel
theorem dX6_takesPlace_90 : decode cX6_takesPlace 90 = .ok (.return_, 1) := by decide +kernel
theorem dX6_hangsLeft_0 : decode cX6_hangsLeft 0 = .ok (.aload_n 0, 1) := by decide +kernel
theorem dX6_hangsLeft_1 : decode cX6_hangsLeft 1 = .ok (.getfield 19, 3) := by decide +kernel
theorem dX6_hangsLeft_4 : decode cX6_hangsLeft 4 = .ok (.bipush 64, 2) := by decide +kernel
theorem dX6_hangsLeft_6 : decode cX6_hangsLeft 6 = .ok (.iload_n 1, 1) := by decide +kernel
theorem dX6_hangsLeft_7 : decode cX6_hangsLeft 7 = .ok (.imul, 1) := by decide +kernel
theorem dX6_hangsLeft_8 : decode cX6_hangsLeft 8 = .ok (.iload_n 3, 1) := by decide +kernel
theorem dX6_hangsLeft_9 : decode cX6_hangsLeft 9 = .ok (.iadd, 1) := by decide +kernel
theorem dX6_hangsLeft_10 : decode cX6_hangsLeft 10 = .ok (.iload_n 2, 1) := by decide +kernel
theorem dX6_hangsLeft_11 : decode cX6_hangsLeft 11 = .ok (.iastore, 1) := by decide +kernel
theorem dX6_hangsLeft_12 : decode cX6_hangsLeft 12 = .ok (.iload_n 2, 1) := by decide +kernel
theorem dX6_hangsLeft_13 : decode cX6_hangsLeft 13 = .ok (.ifCond .lt 15, 3) := by decide +kernel
theorem dX6_hangsLeft_16 : decode cX6_hangsLeft 16 = .ok (.aload_n 0, 1) := by decide +kernel
theorem dX6_hangsLeft_17 : decode cX6_hangsLeft 17 = .ok (.getfield 16, 3) := by decide +kernel
theorem dX6_hangsLeft_20 : decode cX6_hangsLeft 20 = .ok (.bipush 64, 2) := by decide +kernel
theorem dX6_hangsLeft_22 : decode cX6_hangsLeft 22 = .ok (.iload_n 1, 1) := by decide +kernel
theorem dX6_hangsLeft_23 : decode cX6_hangsLeft 23 = .ok (.imul, 1) := by decide +kernel
theorem dX6_hangsLeft_24 : decode cX6_hangsLeft 24 = .ok (.iload_n 2, 1) := by decide +kernel
theorem dX6_hangsLeft_25 : decode cX6_hangsLeft 25 = .ok (.iadd, 1) := by decide +kernel
theorem dX6_hangsLeft_26 : decode cX6_hangsLeft 26 = .ok (.iload_n 3, 1) := by decide +kernel
theorem dX6_hangsLeft_27 : decode cX6_hangsLeft 27 = .ok (.iastore, 1) := by decide +kernel
theorem dX6_hangsLeft_28 : decode cX6_hangsLeft 28 = .ok (.return_, 1) := by decide +kernel
theorem dX6_hangsRight_0 : decode cX6_hangsRight 0 = .ok (.aload_n 0, 1) := by decide +kernel
theorem dX6_hangsRight_1 : decode cX6_hangsRight 1 = .ok (.getfield 22, 3) := by decide +kernel
theorem dX6_hangsRight_4 : decode cX6_hangsRight 4 = .ok (.bipush 64, 2) := by decide +kernel
theorem dX6_hangsRight_6 : decode cX6_hangsRight 6 = .ok (.iload_n 1, 1) := by decide +kernel
theorem dX6_hangsRight_7 : decode cX6_hangsRight 7 = .ok (.imul, 1) := by decide +kernel
theorem dX6_hangsRight_8 : decode cX6_hangsRight 8 = .ok (.iload_n 3, 1) := by decide +kernel
theorem dX6_hangsRight_9 : decode cX6_hangsRight 9 = .ok (.iadd, 1) := by decide +kernel
theorem dX6_hangsRight_10 : decode cX6_hangsRight 10 = .ok (.iload_n 2, 1) := by decide +kernel
theorem dX6_hangsRight_11 : decode cX6_hangsRight 11 = .ok (.iastore, 1) := by decide +kernel
theorem dX6_hangsRight_12 : decode cX6_hangsRight 12 = .ok (.iload_n 2, 1) := by decide +kernel
theorem dX6_hangsRight_13 : decode cX6_hangsRight 13 = .ok (.ifCond .lt 15, 3) := by decide +kernel
theorem dX6_hangsRight_16 : decode cX6_hangsRight 16 = .ok (.aload_n 0, 1) := by decide +kernel
theorem dX6_hangsRight_17 : decode cX6_hangsRight 17 = .ok (.getfield 16, 3) := by decide +kernel
theorem dX6_hangsRight_20 : decode cX6_hangsRight 20 = .ok (.bipush 64, 2) := by decide +kernel
theorem dX6_hangsRight_22 : decode cX6_hangsRight 22 = .ok (.iload_n 1, 1) := by decide +kernel
theorem dX6_hangsRight_23 : decode cX6_hangsRight 23 = .ok (.imul, 1) := by decide +kernel
theorem dX6_hangsRight_24 : decode cX6_hangsRight 24 = .ok (.iload_n 2, 1) := by decide +kernel
theorem dX6_hangsRight_25 : decode cX6_hangsRight 25 = .ok (.iadd, 1) := by decide +kernel
theorem dX6_hangsRight_26 : decode cX6_hangsRight 26 = .ok (.iload_n 3, 1) := by decide +kernel
theorem dX6_hangsRight_27 : decode cX6_hangsRight 27 = .ok (.iastore, 1) := by decide +kernel
theorem dX6_hangsRight_28 : decode cX6_hangsRight 28 = .ok (.return_, 1) := by decide +kernel
set_option maxRecDepth 20000 in
theorem ggX6_turn_X6_takesPlace : GoodIn wsX6_turn wsX6_takesPlace := goodIn_r _ [9, 1, 10, 3, 2, 19, 20, 21, 22, 23, 24, 25, 26, 27, 28, 29, 30, 31, 32, 33, 34, 35, 36, 37, 38, 39, 40, 41, 42, 43, 44, 45, 46] (by decide +kernel) (by decide +kernel)
set_option maxRecDepth 20000 in
theorem gX6_turn_X6_takesPlace : GoodIn wsX6_turn (wsV RX6 92 RX6 yX6_takesPlace wsX6_takesPlace) := goodIn_app (goodIn_of _ (by decide +kernel)) ggX6_turn_X6_takesPlace
set_option maxRecDepth 20000 in
theorem ggX6_turn_X6_hangsLeft : GoodIn wsX6_turn wsX6_hangsLeft := goodIn_r _ [14, 3, 1, 19, 20, 21, 22, 23, 24, 25, 26, 27, 28, 29, 30, 31, 32, 33, 34, 35, 36, 37, 38, 39, 40, 41, 42, 43, 44, 45, 46] (by decide +kernel) (by decide +kernel)
set_option maxRecDepth 20000 in
theorem gX6_turn_X6_hangsLeft : GoodIn wsX6_turn (wsV RX6 96 RX6 yX6_hangsLeft wsX6_hangsLeft) := goodIn_app (goodIn_of _ (by decide +kernel)) ggX6_turn_X6_hangsLeft
set_option maxRecDepth 20000 in
theorem ggX6_turn_X6_hangsRight : GoodIn wsX6_turn wsX6_hangsRight := goodIn_r _ [18, 2, 1, 19, 20, 21, 22, 23, 24, 25, 26, 27, 28, 29, 30, 31, 32, 33, 34, 35, 36, 37, 38, 39, 40, 41, 42, 43, 44, 45, 46] (by decide +kernel) (by decide +kernel)
set_option maxRecDepth 20000 in
theorem gX6_turn_X6_hangsRight : GoodIn wsX6_turn (wsV RX6 99 RX6 yX6_hangsRight wsX6_hangsRight) := goodIn_app (goodIn_of _ (by decide +kernel)) ggX6_turn_X6_hangsRight
theorem dX6_turn_0 : decode cX6_turn 0 = .ok (.aload_n 0, 1) := by decide +kernel
theorem dX6_turn_1 : decode cX6_turn 1 = .ok (.getfield 16, 3) := by decide +kernel
theorem dX6_turn_4 : decode cX6_turn 4 = .ok (.bipush 64, 2) := by decide +kernel
theorem dX6_turn_6 : decode cX6_turn 6 = .ok (.iload_n 1, 1) := by decide +kernel
theorem dX6_turn_7 : decode cX6_turn 7 = .ok (.imul, 1) := by decide +kernel
theorem dX6_turn_8 : decode cX6_turn 8 = .ok (.iload_n 2, 1) := by decide +kernel
theorem dX6_turn_9 : decode cX6_turn 9 = .ok (.iadd, 1) := by decide +kernel
theorem dX6_turn_10 : decode cX6_turn 10 = .ok (.iaload, 1) := by decide +kernel
theorem dX6_turn_11 : decode cX6_turn 11 = .ok (.istore_n 3, 1) := by decide +kernel
theorem dX6_turn_12 : decode cX6_turn 12 = .ok (.aload_n 0, 1) := by decide +kernel
theorem dX6_turn_13 : decode cX6_turn 13 = .ok (.iload_n 1, 1) := by decide +kernel
theorem dX6_turn_14 : decode cX6_turn 14 = .ok (.iload_n 3, 1) := by decide +kernel
theorem dX6_turn_15 : decode cX6_turn 15 = .ok (.iload_n 2, 1) := by decide +kernel
theorem dX6_turn_16 : decode cX6_turn 16 = .ok (.invokevirtual 92, 3) := by decide +kernel
theorem dX6_turn_19 : decode cX6_turn 19 = .ok (.iload_n 2, 1) := by decide +kernel
theorem dX6_turn_20 : decode cX6_turn 20 = .ok (.iload_n 3, 1) := by decide +kernel
theorem dX6_turn_21 : decode cX6_turn 21 = .ok (.if_icmp .ge 30, 3) := by decide +kernel
theorem dX6_turn_24 : decode cX6_turn 24 = .ok (.aload_n 0, 1) := by decide +kernel
theorem dX6_turn_25 : decode cX6_turn 25 = .ok (.iload_n 1, 1) := by decide +kernel
theorem dX6_turn_26 : decode cX6_turn 26 = .ok (.aload_n 0, 1) := by decide +kernel
theorem dX6_turn_27 : decode cX6_turn 27 = .ok (.getfield 22, 3) := by decide +kernel
theorem dX6_turn_30 : decode cX6_turn 30 = .ok (.bipush 64, 2) := by decide +kernel
theorem dX6_turn_32 : decode cX6_turn 32 = .ok (.iload_n 1, 1) := by decide +kernel
theorem dX6_turn_33 : decode cX6_turn 33 = .ok (.imul, 1) := by decide +kernel
theorem dX6_turn_34 : decode cX6_turn 34 = .ok (.iload_n 2, 1) := by decide +kernel
theorem dX6_turn_35 : decode cX6_turn 35 = .ok (.iadd, 1) := by decide +kernel
theorem dX6_turn_36 : decode cX6_turn 36 = .ok (.iaload, 1) := by decide +kernel
theorem dX6_turn_37 : decode cX6_turn 37 = .ok (.iload_n 3, 1) := by decide +kernel
theorem dX6_turn_38 : decode cX6_turn 38 = .ok (.invokevirtual 96, 3) := by decide +kernel
theorem dX6_turn_41 : decode cX6_turn 41 = .ok (.aload_n 0, 1) := by decide +kernel
theorem dX6_turn_42 : decode cX6_turn 42 = .ok (.iload_n 1, 1) := by decide +kernel
theorem dX6_turn_43 : decode cX6_turn 43 = .ok (.iload_n 3, 1) := by decide +kernel
theorem dX6_turn_44 : decode cX6_turn 44 = .ok (.iload_n 2, 1) := by decide +kernel
theorem dX6_turn_45 : decode cX6_turn 45 = .ok (.invokevirtual 99, 3) := by decide +kernel
theorem dX6_turn_48 : decode cX6_turn 48 = .ok (.goto 27, 3) := by decide +kernel
theorem dX6_turn_51 : decode cX6_turn 51 = .ok (.aload_n 0, 1) := by decide +kernel
theorem dX6_turn_52 : decode cX6_turn 52 = .ok (.iload_n 1, 1) := by decide +kernel
theorem dX6_turn_53 : decode cX6_turn 53 = .ok (.aload_n 0, 1) := by decide +kernel
theorem dX6_turn_54 : decode cX6_turn 54 = .ok (.getfield 19, 3) := by decide +kernel
theorem dX6_turn_57 : decode cX6_turn 57 = .ok (.bipush 64, 2) := by decide +kernel
theorem dX6_turn_59 : decode cX6_turn 59 = .ok (.iload_n 1, 1) := by decide +kernel
theorem dX6_turn_60 : decode cX6_turn 60 = .ok (.imul, 1) := by decide +kernel
theorem dX6_turn_61 : decode cX6_turn 61 = .ok (.iload_n 2, 1) := by decide +kernel
theorem dX6_turn_62 : decode cX6_turn 62 = .ok (.iadd, 1) := by decide +kernel
theorem dX6_turn_63 : decode cX6_turn 63 = .ok (.iaload, 1) := by decide +kernel
theorem dX6_turn_64 : decode cX6_turn 64 = .ok (.iload_n 3, 1) := by decide +kernel
theorem dX6_turn_65 : decode cX6_turn 65 = .ok (.invokevirtual 99, 3) := by decide +kernel
theorem dX6_turn_68 : decode cX6_turn 68 = .ok (.aload_n 0, 1) := by decide +kernel
theorem dX6_turn_69 : decode cX6_turn 69 = .ok (.iload_n 1, 1) := by decide +kernel
theorem dX6_turn_70 : decode cX6_turn 70 = .ok (.iload_n 3, 1) := by decide +kernel
theorem dX6_turn_71 : decode cX6_turn 71 = .ok (.iload_n 2, 1) := by decide +kernel
theorem dX6_turn_72 : decode cX6_turn 72 = .ok (.invokevirtual 96, 3) := by decide +kernel
theorem dX6_turn_75 : decode cX6_turn 75 = .ok (.aload_n 0, 1) := by decide +kernel
theorem dX6_turn_76 : decode cX6_turn 76 = .ok (.getfield 32, 3) := by decide +kernel
theorem dX6_turn_79 : decode cX6_turn 79 = .ok (.iload_n 1, 1) := by decide +kernel
theorem dX6_turn_80 : decode cX6_turn 80 = .ok (.dup2, 1) := by decide +kernel
theorem dX6_turn_81 : decode cX6_turn 81 = .ok (.iaload, 1) := by decide +kernel
theorem dX6_turn_82 : decode cX6_turn 82 = .ok (.iconst 1, 1) := by decide +kernel
theorem dX6_turn_83 : decode cX6_turn 83 = .ok (.iadd, 1) := by decide +kernel
theorem dX6_turn_84 : decode cX6_turn 84 = .ok (.iastore, 1) := by decide +kernel
theorem dX6_turn_85 : decode cX6_turn 85 = .ok (.return_, 1) := by decide +kernel
set_option maxRecDepth 20000 in
theorem ggX6_acts_X6_splays : GoodIn wsX6_acts wsX6_splays := goodIn_r _ [7, 2, 8, 9, 10, 6, 11, 12, 13, 14, 15, 16, 17, 18, 19, 20, 21, 22, 23, 24, 25, 26, 27, 32, 33, 34, 35, 36, 37, 38, 39, 40, 41, 42, 43, 44, 45, 46, 47, 48, 49, 50, 51, 52, 53, 54, 55, 56, 57, 58, 59] (by decide +kernel) (by decide +kernel)
set_option maxRecDepth 20000 in
theorem gX6_acts_X6_splays : GoodIn wsX6_acts (wsV RX6 102 RX6 yX6_splays wsX6_splays) := goodIn_app (goodIn_of _ (by decide +kernel)) ggX6_acts_X6_splays
set_option maxRecDepth 20000 in
theorem ggX6_acts_X6_turn : GoodIn wsX6_acts wsX6_turn := goodIn_r _ [11, 2, 12, 13, 14, 15, 16, 17, 6, 18, 19, 20, 21, 22, 23, 24, 25, 26, 27, 32, 33, 34, 35, 36, 37, 38, 39, 40, 41, 42, 43, 44, 45, 46, 47, 48, 49, 50, 51, 52, 53, 54, 55, 56, 57, 58, 59] (by decide +kernel) (by decide +kernel)
set_option maxRecDepth 20000 in
theorem gX6_acts_X6_turn : GoodIn wsX6_acts (wsV RX6 106 RX6 yX6_turn wsX6_turn) := goodIn_app (goodIn_of _ (by decide +kernel)) ggX6_acts_X6_turn
set_option maxRecDepth 20000 in
theorem ggX6_acts_X6_rises : GoodIn wsX6_acts wsX6_rises := goodIn_r _ [31, 2, 8, 9, 10, 6, 11, 12, 13, 14, 15, 16, 17, 18, 19, 20, 21, 22, 23, 24, 25, 26, 27, 32, 33, 34, 35, 36, 37, 38, 39, 40, 41, 42, 43, 44, 45, 46, 47, 48, 49, 50, 51, 52, 53, 54, 55, 56, 57, 58, 59] (by decide +kernel) (by decide +kernel)
set_option maxRecDepth 20000 in
theorem gX6_acts_X6_rises : GoodIn wsX6_acts (wsV RX6 109 RX6 yX6_rises wsX6_rises) := goodIn_app (goodIn_of _ (by decide +kernel)) ggX6_acts_X6_rises
theorem dX6_acts_0 : decode cX6_acts 0 = .ok (.aload_n 0, 1) := by decide +kernel
theorem dX6_acts_1 : decode cX6_acts 1 = .ok (.getfield 7, 3) := by decide +kernel
theorem dX6_acts_4 : decode cX6_acts 4 = .ok (.iload_n 1, 1) := by decide +kernel
theorem dX6_acts_5 : decode cX6_acts 5 = .ok (.iaload, 1) := by decide +kernel
theorem dX6_acts_6 : decode cX6_acts 6 = .ok (.iconst 1, 1) := by decide +kernel
theorem dX6_acts_7 : decode cX6_acts 7 = .ok (.if_icmp .ne 12, 3) := by decide +kernel
theorem dX6_acts_10 : decode cX6_acts 10 = .ok (.aload_n 0, 1) := by decide +kernel
theorem dX6_acts_11 : decode cX6_acts 11 = .ok (.iload_n 1, 1) := by decide +kernel
theorem dX6_acts_12 : decode cX6_acts 12 = .ok (.iload_n 2, 1) := by decide +kernel
theorem dX6_acts_13 : decode cX6_acts 13 = .ok (.invokevirtual 102, 3) := by decide +kernel
theorem dX6_acts_16 : decode cX6_acts 16 = .ok (.goto 52, 3) := by decide +kernel
theorem dX6_acts_19 : decode cX6_acts 19 = .ok (.aload_n 0, 1) := by decide +kernel
theorem dX6_acts_20 : decode cX6_acts 20 = .ok (.getfield 7, 3) := by decide +kernel
theorem dX6_acts_23 : decode cX6_acts 23 = .ok (.iload_n 1, 1) := by decide +kernel
theorem dX6_acts_24 : decode cX6_acts 24 = .ok (.iaload, 1) := by decide +kernel
theorem dX6_acts_25 : decode cX6_acts 25 = .ok (.iconst 2, 1) := by decide +kernel
theorem dX6_acts_26 : decode cX6_acts 26 = .ok (.if_icmp .ne 26, 3) := by decide +kernel
theorem dX6_acts_29 : decode cX6_acts 29 = .ok (.aload_n 0, 1) := by decide +kernel
theorem dX6_acts_30 : decode cX6_acts 30 = .ok (.getfield 16, 3) := by decide +kernel
theorem dX6_acts_33 : decode cX6_acts 33 = .ok (.bipush 64, 2) := by decide +kernel
theorem dX6_acts_35 : decode cX6_acts 35 = .ok (.iload_n 1, 1) := by decide +kernel
theorem dX6_acts_36 : decode cX6_acts 36 = .ok (.imul, 1) := by decide +kernel
theorem dX6_acts_37 : decode cX6_acts 37 = .ok (.iload_n 2, 1) := by decide +kernel
theorem dX6_acts_38 : decode cX6_acts 38 = .ok (.iadd, 1) := by decide +kernel
theorem dX6_acts_39 : decode cX6_acts 39 = .ok (.iaload, 1) := by decide +kernel
theorem dX6_acts_40 : decode cX6_acts 40 = .ok (.ifCond .lt 12, 3) := by decide +kernel
theorem dX6_acts_43 : decode cX6_acts 43 = .ok (.aload_n 0, 1) := by decide +kernel
theorem dX6_acts_44 : decode cX6_acts 44 = .ok (.iload_n 1, 1) := by decide +kernel
theorem dX6_acts_45 : decode cX6_acts 45 = .ok (.iload_n 2, 1) := by decide +kernel
theorem dX6_acts_46 : decode cX6_acts 46 = .ok (.invokevirtual 106, 3) := by decide +kernel
theorem dX6_acts_49 : decode cX6_acts 49 = .ok (.goto 19, 3) := by decide +kernel
theorem dX6_acts_52 : decode cX6_acts 52 = .ok (.aload_n 0, 1) := by decide +kernel
theorem dX6_acts_53 : decode cX6_acts 53 = .ok (.getfield 7, 3) := by decide +kernel
theorem dX6_acts_56 : decode cX6_acts 56 = .ok (.iload_n 1, 1) := by decide +kernel
theorem dX6_acts_57 : decode cX6_acts 57 = .ok (.iaload, 1) := by decide +kernel
theorem dX6_acts_58 : decode cX6_acts 58 = .ok (.iconst 3, 1) := by decide +kernel
theorem dX6_acts_59 : decode cX6_acts 59 = .ok (.if_icmp .ne 9, 3) := by decide +kernel
theorem dX6_acts_62 : decode cX6_acts 62 = .ok (.aload_n 0, 1) := by decide +kernel
theorem dX6_acts_63 : decode cX6_acts 63 = .ok (.iload_n 1, 1) := by decide +kernel
theorem dX6_acts_64 : decode cX6_acts 64 = .ok (.iload_n 2, 1) := by decide +kernel
theorem dX6_acts_65 : decode cX6_acts 65 = .ok (.invokevirtual 109, 3) := by decide +kernel
theorem dX6_acts_68 : decode cX6_acts 68 = .ok (.return_, 1) := by decide +kernel
set_option maxRecDepth 20000 in
theorem ggX6_rises_X6_turn : GoodIn wsX6_rises wsX6_turn := goodIn_r _ [6, 1, 7, 8, 9, 10, 11, 12, 5, 13, 14, 15, 16, 17, 18, 19, 20, 21, 22, 23, 24, 25, 26, 27, 28, 29, 30, 31, 32, 33, 34, 35, 36, 37, 38, 39, 40, 41, 42, 43, 44, 45, 46, 47, 48, 49, 50] (by decide +kernel) (by decide +kernel)
set_option maxRecDepth 20000 in
theorem gX6_rises_X6_turn : GoodIn wsX6_rises (wsV RX6 106 RX6 yX6_turn wsX6_turn) := goodIn_app (goodIn_of _ (by decide +kernel)) ggX6_rises_X6_turn
theorem dX6_rises_0 : decode cX6_rises 0 = .ok (.aload_n 0, 1) := by decide +kernel
theorem dX6_rises_1 : decode cX6_rises 1 = .ok (.getfield 16, 3) := by decide +kernel
theorem dX6_rises_4 : decode cX6_rises 4 = .ok (.bipush 64, 2) := by decide +kernel
theorem dX6_rises_6 : decode cX6_rises 6 = .ok (.iload_n 1, 1) := by decide +kernel
theorem dX6_rises_7 : decode cX6_rises 7 = .ok (.imul, 1) := by decide +kernel
theorem dX6_rises_8 : decode cX6_rises 8 = .ok (.iload_n 2, 1) := by decide +kernel
theorem dX6_rises_9 : decode cX6_rises 9 = .ok (.iadd, 1) := by decide +kernel
theorem dX6_rises_10 : decode cX6_rises 10 = .ok (.iaload, 1) := by decide +kernel
theorem dX6_rises_11 : decode cX6_rises 11 = .ok (.ifCond .lt 12, 3) := by decide +kernel
theorem dX6_rises_14 : decode cX6_rises 14 = .ok (.aload_n 0, 1) := by decide +kernel
theorem dX6_rises_15 : decode cX6_rises 15 = .ok (.iload_n 1, 1) := by decide +kernel
theorem dX6_rises_16 : decode cX6_rises 16 = .ok (.iload_n 2, 1) := by decide +kernel
theorem dX6_rises_17 : decode cX6_rises 17 = .ok (.invokevirtual 106, 3) := by decide +kernel
theorem dX6_rises_20 : decode cX6_rises 20 = .ok (.goto (-20), 3) := by decide +kernel
theorem dX6_rises_23 : decode cX6_rises 23 = .ok (.return_, 1) := by decide +kernel
set_option maxRecDepth 20000 in
theorem ggX6_splays_X6_turn : GoodIn wsX6_splays wsX6_turn := goodIn_r _ [6, 1, 7, 8, 9, 10, 11, 12, 5, 13, 14, 15, 16, 17, 18, 19, 20, 21, 22, 23, 24, 25, 26, 27, 28, 29, 30, 31, 32, 33, 34, 35, 36, 37, 38, 39, 40, 41, 42, 43, 44, 45, 46, 47, 48, 49, 50] (by decide +kernel) (by decide +kernel)
set_option maxRecDepth 20000 in
theorem gX6_splays_X6_turn : GoodIn wsX6_splays (wsV RX6 106 RX6 yX6_turn wsX6_turn) := goodIn_app (goodIn_of _ (by decide +kernel)) ggX6_splays_X6_turn
theorem dX6_splays_0 : decode cX6_splays 0 = .ok (.aload_n 0, 1) := by decide +kernel
theorem dX6_splays_1 : decode cX6_splays 1 = .ok (.getfield 16, 3) := by decide +kernel
theorem dX6_splays_4 : decode cX6_splays 4 = .ok (.bipush 64, 2) := by decide +kernel
theorem dX6_splays_6 : decode cX6_splays 6 = .ok (.iload_n 1, 1) := by decide +kernel
theorem dX6_splays_7 : decode cX6_splays 7 = .ok (.imul, 1) := by decide +kernel
theorem dX6_splays_8 : decode cX6_splays 8 = .ok (.iload_n 2, 1) := by decide +kernel
theorem dX6_splays_9 : decode cX6_splays 9 = .ok (.iadd, 1) := by decide +kernel
theorem dX6_splays_10 : decode cX6_splays 10 = .ok (.iaload, 1) := by decide +kernel
theorem dX6_splays_11 : decode cX6_splays 11 = .ok (.ifCond .lt 76, 3) := by decide +kernel
theorem dX6_splays_14 : decode cX6_splays 14 = .ok (.aload_n 0, 1) := by decide +kernel
theorem dX6_splays_15 : decode cX6_splays 15 = .ok (.getfield 16, 3) := by decide +kernel
theorem dX6_splays_18 : decode cX6_splays 18 = .ok (.bipush 64, 2) := by decide +kernel
theorem dX6_splays_20 : decode cX6_splays 20 = .ok (.iload_n 1, 1) := by decide +kernel
theorem dX6_splays_21 : decode cX6_splays 21 = .ok (.imul, 1) := by decide +kernel
theorem dX6_splays_22 : decode cX6_splays 22 = .ok (.iload_n 2, 1) := by decide +kernel
theorem dX6_splays_23 : decode cX6_splays 23 = .ok (.iadd, 1) := by decide +kernel
theorem dX6_splays_24 : decode cX6_splays 24 = .ok (.iaload, 1) := by decide +kernel
theorem dX6_splays_25 : decode cX6_splays 25 = .ok (.istore_n 3, 1) := by decide +kernel
theorem dX6_splays_26 : decode cX6_splays 26 = .ok (.aload_n 0, 1) := by decide +kernel
theorem dX6_splays_27 : decode cX6_splays 27 = .ok (.getfield 16, 3) := by decide +kernel
theorem dX6_splays_30 : decode cX6_splays 30 = .ok (.bipush 64, 2) := by decide +kernel
theorem dX6_splays_32 : decode cX6_splays 32 = .ok (.iload_n 1, 1) := by decide +kernel
theorem dX6_splays_33 : decode cX6_splays 33 = .ok (.imul, 1) := by decide +kernel
theorem dX6_splays_34 : decode cX6_splays 34 = .ok (.iload_n 3, 1) := by decide +kernel
theorem dX6_splays_35 : decode cX6_splays 35 = .ok (.iadd, 1) := by decide +kernel
theorem dX6_splays_36 : decode cX6_splays 36 = .ok (.iaload, 1) := by decide +kernel
theorem dX6_splays_37 : decode cX6_splays 37 = .ok (.istore 4, 2) := by decide +kernel
theorem dX6_splays_39 : decode cX6_splays 39 = .ok (.iload 4, 2) := by decide +kernel
theorem dX6_splays_41 : decode cX6_splays 41 = .ok (.ifCond .lt 37, 3) := by decide +kernel
theorem dX6_splays_44 : decode cX6_splays 44 = .ok (.aload_n 0, 1) := by decide +kernel
theorem dX6_splays_45 : decode cX6_splays 45 = .ok (.iload_n 1, 1) := by decide +kernel
theorem dX6_splays_46 : decode cX6_splays 46 = .ok (.iload_n 2, 1) := by decide +kernel
theorem dX6_splays_47 : decode cX6_splays 47 = .ok (.iload_n 3, 1) := by decide +kernel
theorem dX6_splays_48 : decode cX6_splays 48 = .ok (.if_icmp .ge 7, 3) := by decide +kernel
theorem dX6_splays_51 : decode cX6_splays 51 = .ok (.iconst 1, 1) := by decide +kernel
theorem dX6_splays_52 : decode cX6_splays 52 = .ok (.goto 4, 3) := by decide +kernel
theorem dX6_splays_55 : decode cX6_splays 55 = .ok (.iconst 0, 1) := by decide +kernel
theorem dX6_splays_56 : decode cX6_splays 56 = .ok (.iload_n 3, 1) := by decide +kernel
theorem dX6_splays_57 : decode cX6_splays 57 = .ok (.iload 4, 2) := by decide +kernel
theorem dX6_splays_59 : decode cX6_splays 59 = .ok (.if_icmp .ge 7, 3) := by decide +kernel
theorem dX6_splays_62 : decode cX6_splays 62 = .ok (.iconst 1, 1) := by decide +kernel
theorem dX6_splays_63 : decode cX6_splays 63 = .ok (.goto 4, 3) := by decide +kernel
theorem dX6_splays_66 : decode cX6_splays 66 = .ok (.iconst 0, 1) := by decide +kernel
theorem dX6_splays_67 : decode cX6_splays 67 = .ok (.if_icmp .ne 7, 3) := by decide +kernel
theorem dX6_splays_70 : decode cX6_splays 70 = .ok (.iload_n 3, 1) := by decide +kernel
theorem dX6_splays_71 : decode cX6_splays 71 = .ok (.goto 4, 3) := by decide +kernel
theorem dX6_splays_74 : decode cX6_splays 74 = .ok (.iload_n 2, 1) := by decide +kernel
theorem dX6_splays_75 : decode cX6_splays 75 = .ok (.invokevirtual 106, 3) := by decide +kernel
theorem dX6_splays_78 : decode cX6_splays 78 = .ok (.aload_n 0, 1) := by decide +kernel
theorem dX6_splays_79 : decode cX6_splays 79 = .ok (.iload_n 1, 1) := by decide +kernel
theorem dX6_splays_80 : decode cX6_splays 80 = .ok (.iload_n 2, 1) := by decide +kernel
theorem dX6_splays_81 : decode cX6_splays 81 = .ok (.invokevirtual 106, 3) := by decide +kernel
theorem dX6_splays_84 : decode cX6_splays 84 = .ok (.goto (-84), 3) := by decide +kernel
theorem dX6_splays_87 : decode cX6_splays 87 = .ok (.return_, 1) := by decide +kernel
set_option maxRecDepth 20000 in
theorem ggX6_actsAdded_X6_acts : GoodIn wsX6_actsAdded wsX6_acts := goodIn_r _ [7, 1, 2, 8, 9, 10, 6, 11, 12, 13, 14, 15, 16, 17, 18, 19, 20, 21, 22, 23, 24, 25, 26, 27, 28, 29, 30, 31, 32, 33, 34, 35, 76, 77, 78, 79, 80, 81, 82, 83, 84, 85, 86, 87, 88, 89, 90, 91, 92, 93, 94, 95, 96, 97, 98, 99, 100, 101, 102, 103] (by decide +kernel) (by decide +kernel)
set_option maxRecDepth 20000 in
theorem gX6_actsAdded_X6_acts : GoodIn wsX6_actsAdded (wsV RX6 112 RX6 yX6_acts wsX6_acts) := goodIn_app (goodIn_of _ (by decide +kernel)) ggX6_actsAdded_X6_acts
set_option maxRecDepth 20000 in
theorem ggX6_actsAdded_X6_balances : GoodIn wsX6_actsAdded wsX6_balances := goodIn_r _ [39, 40, 41, 2, 42, 43, 44, 6, 45, 46, 47, 48, 49, 50, 51, 52, 53, 54, 17, 16, 55, 56, 57, 58, 59, 60, 61, 62, 63, 23, 64, 65, 66, 67, 68, 69, 70, 71, 72, 24, 25, 26, 27, 28, 29, 30, 31, 76, 77, 78, 79, 80, 81, 82, 83, 84, 85, 86, 87, 88, 89, 90, 91, 92, 93, 94, 95, 96, 97, 98, 99, 100, 101, 102, 103] (by decide +kernel) (by decide +kernel)
set_option maxRecDepth 20000 in
theorem gX6_actsAdded_X6_balances : GoodIn wsX6_actsAdded (wsV RX6 115 RX6 yX6_balances wsX6_balances) := goodIn_app (goodIn_of _ (by decide +kernel)) ggX6_actsAdded_X6_balances
set_option maxRecDepth 20000 in
theorem ggX6_actsAdded_X6_weight : GoodIn wsX6_actsAdded wsX6_weight := goodIn_r _ [75] (by decide +kernel) (by decide +kernel)
set_option maxRecDepth 20000 in
theorem gX6_actsAdded_X6_weight : GoodIn wsX6_actsAdded (va_wsS RX6 118 yX6_weight wsX6_weight) := goodIn_app (goodIn_of _ (by decide +kernel)) ggX6_actsAdded_X6_weight
set_option maxRecDepth 20000 in
theorem ggX6_actsAdded_X6_turn : GoodIn wsX6_actsAdded wsX6_turn := goodIn_r _ [15, 2, 16, 17, 18, 19, 20, 21, 6, 22, 23, 24, 25, 26, 27, 28, 29, 30, 31, 76, 77, 78, 79, 80, 81, 82, 83, 84, 85, 86, 87, 88, 89, 90, 91, 92, 93, 94, 95, 96, 97, 98, 99, 100, 101, 102, 103] (by decide +kernel) (by decide +kernel)
set_option maxRecDepth 20000 in
theorem gX6_actsAdded_X6_turn : GoodIn wsX6_actsAdded (wsV RX6 106 RX6 yX6_turn wsX6_turn) := goodIn_app (goodIn_of _ (by decide +kernel)) ggX6_actsAdded_X6_turn
theorem dX6_actsAdded_0 : decode cX6_actsAdded 0 = .ok (.aload_n 0, 1) := by decide +kernel
theorem dX6_actsAdded_1 : decode cX6_actsAdded 1 = .ok (.iload_n 1, 1) := by decide +kernel
theorem dX6_actsAdded_2 : decode cX6_actsAdded 2 = .ok (.iload_n 2, 1) := by decide +kernel
theorem dX6_actsAdded_3 : decode cX6_actsAdded 3 = .ok (.invokevirtual 112, 3) := by decide +kernel
theorem dX6_actsAdded_6 : decode cX6_actsAdded 6 = .ok (.aload_n 0, 1) := by decide +kernel
theorem dX6_actsAdded_7 : decode cX6_actsAdded 7 = .ok (.getfield 7, 3) := by decide +kernel
theorem dX6_actsAdded_10 : decode cX6_actsAdded 10 = .ok (.iload_n 1, 1) := by decide +kernel
theorem dX6_actsAdded_11 : decode cX6_actsAdded 11 = .ok (.iaload, 1) := by decide +kernel
theorem dX6_actsAdded_12 : decode cX6_actsAdded 12 = .ok (.iconst 4, 1) := by decide +kernel
theorem dX6_actsAdded_13 : decode cX6_actsAdded 13 = .ok (.if_icmp .ne 9, 3) := by decide +kernel
theorem dX6_actsAdded_16 : decode cX6_actsAdded 16 = .ok (.aload_n 0, 1) := by decide +kernel
theorem dX6_actsAdded_17 : decode cX6_actsAdded 17 = .ok (.iload_n 1, 1) := by decide +kernel
theorem dX6_actsAdded_18 : decode cX6_actsAdded 18 = .ok (.iload_n 2, 1) := by decide +kernel
theorem dX6_actsAdded_19 : decode cX6_actsAdded 19 = .ok (.invokevirtual 115, 3) := by decide +kernel
theorem dX6_actsAdded_22 : decode cX6_actsAdded 22 = .ok (.aload_n 0, 1) := by decide +kernel
theorem dX6_actsAdded_23 : decode cX6_actsAdded 23 = .ok (.getfield 7, 3) := by decide +kernel
theorem dX6_actsAdded_26 : decode cX6_actsAdded 26 = .ok (.iload_n 1, 1) := by decide +kernel
theorem dX6_actsAdded_27 : decode cX6_actsAdded 27 = .ok (.iaload, 1) := by decide +kernel
theorem dX6_actsAdded_28 : decode cX6_actsAdded 28 = .ok (.iconst 5, 1) := by decide +kernel
theorem dX6_actsAdded_29 : decode cX6_actsAdded 29 = .ok (.if_icmp .ne 47, 3) := by decide +kernel
theorem dX6_actsAdded_32 : decode cX6_actsAdded 32 = .ok (.aload_n 0, 1) := by decide +kernel
theorem dX6_actsAdded_33 : decode cX6_actsAdded 33 = .ok (.getfield 16, 3) := by decide +kernel
theorem dX6_actsAdded_36 : decode cX6_actsAdded 36 = .ok (.bipush 64, 2) := by decide +kernel
theorem dX6_actsAdded_38 : decode cX6_actsAdded 38 = .ok (.iload_n 1, 1) := by decide +kernel
theorem dX6_actsAdded_39 : decode cX6_actsAdded 39 = .ok (.imul, 1) := by decide +kernel
theorem dX6_actsAdded_40 : decode cX6_actsAdded 40 = .ok (.iload_n 2, 1) := by decide +kernel
theorem dX6_actsAdded_41 : decode cX6_actsAdded 41 = .ok (.iadd, 1) := by decide +kernel
theorem dX6_actsAdded_42 : decode cX6_actsAdded 42 = .ok (.iaload, 1) := by decide +kernel
theorem dX6_actsAdded_43 : decode cX6_actsAdded 43 = .ok (.ifCond .lt 33, 3) := by decide +kernel
theorem dX6_actsAdded_46 : decode cX6_actsAdded 46 = .ok (.iload_n 2, 1) := by decide +kernel
theorem dX6_actsAdded_47 : decode cX6_actsAdded 47 = .ok (.invokestatic 118, 3) := by decide +kernel
theorem dX6_actsAdded_50 : decode cX6_actsAdded 50 = .ok (.aload_n 0, 1) := by decide +kernel
theorem dX6_actsAdded_51 : decode cX6_actsAdded 51 = .ok (.getfield 16, 3) := by decide +kernel
theorem dX6_actsAdded_54 : decode cX6_actsAdded 54 = .ok (.bipush 64, 2) := by decide +kernel
theorem dX6_actsAdded_56 : decode cX6_actsAdded 56 = .ok (.iload_n 1, 1) := by decide +kernel
theorem dX6_actsAdded_57 : decode cX6_actsAdded 57 = .ok (.imul, 1) := by decide +kernel
theorem dX6_actsAdded_58 : decode cX6_actsAdded 58 = .ok (.iload_n 2, 1) := by decide +kernel
theorem dX6_actsAdded_59 : decode cX6_actsAdded 59 = .ok (.iadd, 1) := by decide +kernel
theorem dX6_actsAdded_60 : decode cX6_actsAdded 60 = .ok (.iaload, 1) := by decide +kernel
theorem dX6_actsAdded_61 : decode cX6_actsAdded 61 = .ok (.invokestatic 118, 3) := by decide +kernel
theorem dX6_actsAdded_64 : decode cX6_actsAdded 64 = .ok (.if_icmp .le 12, 3) := by decide +kernel
theorem dX6_actsAdded_67 : decode cX6_actsAdded 67 = .ok (.aload_n 0, 1) := by decide +kernel
theorem dX6_actsAdded_68 : decode cX6_actsAdded 68 = .ok (.iload_n 1, 1) := by decide +kernel
theorem dX6_actsAdded_69 : decode cX6_actsAdded 69 = .ok (.iload_n 2, 1) := by decide +kernel
theorem dX6_actsAdded_70 : decode cX6_actsAdded 70 = .ok (.invokevirtual 106, 3) := by decide +kernel
theorem dX6_actsAdded_73 : decode cX6_actsAdded 73 = .ok (.goto (-51), 3) := by decide +kernel
theorem dX6_actsAdded_76 : decode cX6_actsAdded 76 = .ok (.return_, 1) := by decide +kernel
theorem dX6_isDeep_0 : decode cX6_isDeep 0 = .ok (.lconst 1, 1) := by decide +kernel
theorem dX6_isDeep_1 : decode cX6_isDeep 1 = .ok (.lstore_n 2, 1) := by decide +kernel
theorem dX6_isDeep_2 : decode cX6_isDeep 2 = .ok (.lconst 1, 1) := by decide +kernel
theorem dX6_isDeep_3 : decode cX6_isDeep 3 = .ok (.lstore 4, 2) := by decide +kernel
theorem dX6_isDeep_5 : decode cX6_isDeep 5 = .ok (.lload_n 2, 1) := by decide +kernel
theorem dX6_isDeep_6 : decode cX6_isDeep 6 = .ok (.iload_n 1, 1) := by decide +kernel
theorem dX6_isDeep_7 : decode cX6_isDeep 7 = .ok (.i2l, 1) := by decide +kernel
theorem dX6_isDeep_8 : decode cX6_isDeep 8 = .ok (.lload 4, 2) := by decide +kernel
theorem dX6_isDeep_10 : decode cX6_isDeep 10 = .ok (.lmul, 1) := by decide +kernel
theorem dX6_isDeep_11 : decode cX6_isDeep 11 = .ok (.lcmp, 1) := by decide +kernel
theorem dX6_isDeep_12 : decode cX6_isDeep 12 = .ok (.ifCond .le 7, 3) := by decide +kernel
theorem dX6_isDeep_15 : decode cX6_isDeep 15 = .ok (.iconst 1, 1) := by decide +kernel
theorem dX6_isDeep_16 : decode cX6_isDeep 16 = .ok (.goto 4, 3) := by decide +kernel
theorem dX6_isDeep_19 : decode cX6_isDeep 19 = .ok (.iconst 0, 1) := by decide +kernel
theorem dX6_isDeep_20 : decode cX6_isDeep 20 = .ok (.istore 6, 2) := by decide +kernel
theorem dX6_isDeep_22 : decode cX6_isDeep 22 = .ok (.iconst 1, 1) := by decide +kernel
theorem dX6_isDeep_23 : decode cX6_isDeep 23 = .ok (.istore 7, 2) := by decide +kernel
theorem dX6_isDeep_25 : decode cX6_isDeep 25 = .ok (.iload 7, 2) := by decide +kernel
theorem dX6_isDeep_27 : decode cX6_isDeep 27 = .ok (.iload_n 0, 1) := by decide +kernel
theorem dX6_isDeep_28 : decode cX6_isDeep 28 = .ok (.if_icmp .ge 45, 3) := by decide +kernel
theorem dX6_isDeep_31 : decode cX6_isDeep 31 = .ok (.iload 6, 2) := by decide +kernel
theorem dX6_isDeep_33 : decode cX6_isDeep 33 = .ok (.ifCond .ne 40, 3) := by decide +kernel
theorem dX6_isDeep_36 : decode cX6_isDeep 36 = .ok (.lload_n 2, 1) := by decide +kernel
theorem dX6_isDeep_37 : decode cX6_isDeep 37 = .ok (.ldc2_w 121, 3) := by decide +kernel
theorem dX6_isDeep_40 : decode cX6_isDeep 40 = .ok (.lmul, 1) := by decide +kernel
theorem dX6_isDeep_41 : decode cX6_isDeep 41 = .ok (.lstore_n 2, 1) := by decide +kernel
theorem dX6_isDeep_42 : decode cX6_isDeep 42 = .ok (.lload 4, 2) := by decide +kernel
theorem dX6_isDeep_44 : decode cX6_isDeep 44 = .ok (.ldc2_w 123, 3) := by decide +kernel
theorem dX6_isDeep_47 : decode cX6_isDeep 47 = .ok (.lmul, 1) := by decide +kernel
theorem dX6_isDeep_48 : decode cX6_isDeep 48 = .ok (.lstore 4, 2) := by decide +kernel
theorem dX6_isDeep_50 : decode cX6_isDeep 50 = .ok (.lload_n 2, 1) := by decide +kernel
theorem dX6_isDeep_51 : decode cX6_isDeep 51 = .ok (.iload_n 1, 1) := by decide +kernel
theorem dX6_isDeep_52 : decode cX6_isDeep 52 = .ok (.i2l, 1) := by decide +kernel
theorem dX6_isDeep_53 : decode cX6_isDeep 53 = .ok (.lload 4, 2) := by decide +kernel
theorem dX6_isDeep_55 : decode cX6_isDeep 55 = .ok (.lmul, 1) := by decide +kernel
theorem dX6_isDeep_56 : decode cX6_isDeep 56 = .ok (.lcmp, 1) := by decide +kernel
theorem dX6_isDeep_57 : decode cX6_isDeep 57 = .ok (.ifCond .le 7, 3) := by decide +kernel
theorem dX6_isDeep_60 : decode cX6_isDeep 60 = .ok (.iconst 1, 1) := by decide +kernel
theorem dX6_isDeep_61 : decode cX6_isDeep 61 = .ok (.goto 4, 3) := by decide +kernel
theorem dX6_isDeep_64 : decode cX6_isDeep 64 = .ok (.iconst 0, 1) := by decide +kernel
theorem dX6_isDeep_65 : decode cX6_isDeep 65 = .ok (.istore 6, 2) := by decide +kernel
theorem dX6_isDeep_67 : decode cX6_isDeep 67 = .ok (.iinc 7 1, 3) := by decide +kernel
theorem dX6_isDeep_70 : decode cX6_isDeep 70 = .ok (.goto (-45), 3) := by decide +kernel
theorem dX6_isDeep_73 : decode cX6_isDeep 73 = .ok (.iload 6, 2) := by decide +kernel
theorem dX6_isDeep_75 : decode cX6_isDeep 75 = .ok (.ireturn, 1) := by decide +kernel
set_option maxRecDepth 20000 in
theorem ggX6_balances_X6_depthOf : GoodIn wsX6_balances wsX6_depthOf := goodIn_r _ [8, 3, 47, 48, 49, 50, 51, 52, 53, 54, 55, 56, 57, 58, 59, 60, 61, 62, 63, 64, 65, 66, 67, 68, 69, 70, 71, 72, 73, 74] (by decide +kernel) (by decide +kernel)
set_option maxRecDepth 20000 in
theorem gX6_balances_X6_depthOf : GoodIn wsX6_balances (wsV RX6 125 RX6 yX6_depthOf wsX6_depthOf) := goodIn_app (goodIn_of _ (by decide +kernel)) ggX6_balances_X6_depthOf
set_option maxRecDepth 20000 in
theorem ggX6_balances_X6_isDeep : GoodIn wsX6_balances wsX6_isDeep := goodIn_r _ [11, 12, 13] (by decide +kernel) (by decide +kernel)
set_option maxRecDepth 20000 in
theorem gX6_balances_X6_isDeep : GoodIn wsX6_balances (va_wsS RX6 128 yX6_isDeep wsX6_isDeep) := goodIn_app (goodIn_of _ (by decide +kernel)) ggX6_balances_X6_isDeep
set_option maxRecDepth 20000 in
theorem ggX6_balances_X6_leans : GoodIn wsX6_balances wsX6_leans := goodIn_r _ [17, 18, 19, 20, 21, 22, 7, 23, 47, 48, 49, 50, 51, 52, 53, 54, 55, 56, 57, 58, 59, 60, 61, 62, 63, 64, 65, 66, 67, 68, 69, 70, 71, 72, 73, 74] (by decide +kernel) (by decide +kernel)
set_option maxRecDepth 20000 in
theorem gX6_balances_X6_leans : GoodIn wsX6_balances (wsV RX6 132 RX6 yX6_leans wsX6_leans) := goodIn_app (goodIn_of _ (by decide +kernel)) ggX6_balances_X6_leans
set_option maxRecDepth 20000 in
theorem ggX6_balances_X6_makesEven : GoodIn wsX6_balances wsX6_makesEven := goodIn_r _ [27, 3, 18, 28, 29, 1, 2, 19, 30, 31, 32, 7, 33, 34, 35, 36, 37, 38, 39, 40, 41, 42, 43, 44, 45, 46, 47, 48, 49, 50, 51, 52, 53, 54, 55, 56, 57, 58, 59, 60, 61, 62, 63, 64, 65, 66, 67, 68, 69, 70, 71, 72, 73, 74] (by decide +kernel) (by decide +kernel)
set_option maxRecDepth 20000 in
theorem gX6_balances_X6_makesEven : GoodIn wsX6_balances (wsV RX6 135 RX6 yX6_makesEven wsX6_makesEven) := goodIn_app (goodIn_of _ (by decide +kernel)) ggX6_balances_X6_makesEven
theorem dX6_balances_0 : decode cX6_balances 0 = .ok (.aload_n 0, 1) := by decide +kernel
theorem dX6_balances_1 : decode cX6_balances 1 = .ok (.getfield 38, 3) := by decide +kernel
theorem dX6_balances_4 : decode cX6_balances 4 = .ok (.iload_n 1, 1) := by decide +kernel
theorem dX6_balances_5 : decode cX6_balances 5 = .ok (.aload_n 0, 1) := by decide +kernel
theorem dX6_balances_6 : decode cX6_balances 6 = .ok (.getfield 29, 3) := by decide +kernel
theorem dX6_balances_9 : decode cX6_balances 9 = .ok (.iload_n 1, 1) := by decide +kernel
theorem dX6_balances_10 : decode cX6_balances 10 = .ok (.iaload, 1) := by decide +kernel
theorem dX6_balances_11 : decode cX6_balances 11 = .ok (.aload_n 0, 1) := by decide +kernel
theorem dX6_balances_12 : decode cX6_balances 12 = .ok (.getfield 38, 3) := by decide +kernel
theorem dX6_balances_15 : decode cX6_balances 15 = .ok (.iload_n 1, 1) := by decide +kernel
theorem dX6_balances_16 : decode cX6_balances 16 = .ok (.iaload, 1) := by decide +kernel
theorem dX6_balances_17 : decode cX6_balances 17 = .ok (.if_icmp .le 12, 3) := by decide +kernel
theorem dX6_balances_20 : decode cX6_balances 20 = .ok (.aload_n 0, 1) := by decide +kernel
theorem dX6_balances_21 : decode cX6_balances 21 = .ok (.getfield 29, 3) := by decide +kernel
theorem dX6_balances_24 : decode cX6_balances 24 = .ok (.iload_n 1, 1) := by decide +kernel
theorem dX6_balances_25 : decode cX6_balances 25 = .ok (.iaload, 1) := by decide +kernel
theorem dX6_balances_26 : decode cX6_balances 26 = .ok (.goto 9, 3) := by decide +kernel
theorem dX6_balances_29 : decode cX6_balances 29 = .ok (.aload_n 0, 1) := by decide +kernel
theorem dX6_balances_30 : decode cX6_balances 30 = .ok (.getfield 38, 3) := by decide +kernel
theorem dX6_balances_33 : decode cX6_balances 33 = .ok (.iload_n 1, 1) := by decide +kernel
theorem dX6_balances_34 : decode cX6_balances 34 = .ok (.iaload, 1) := by decide +kernel
theorem dX6_balances_35 : decode cX6_balances 35 = .ok (.iastore, 1) := by decide +kernel
theorem dX6_balances_36 : decode cX6_balances 36 = .ok (.aload_n 0, 1) := by decide +kernel
theorem dX6_balances_37 : decode cX6_balances 37 = .ok (.iload_n 1, 1) := by decide +kernel
theorem dX6_balances_38 : decode cX6_balances 38 = .ok (.iload_n 2, 1) := by decide +kernel
theorem dX6_balances_39 : decode cX6_balances 39 = .ok (.invokevirtual 125, 3) := by decide +kernel
theorem dX6_balances_42 : decode cX6_balances 42 = .ok (.aload_n 0, 1) := by decide +kernel
theorem dX6_balances_43 : decode cX6_balances 43 = .ok (.getfield 29, 3) := by decide +kernel
theorem dX6_balances_46 : decode cX6_balances 46 = .ok (.iload_n 1, 1) := by decide +kernel
theorem dX6_balances_47 : decode cX6_balances 47 = .ok (.iaload, 1) := by decide +kernel
theorem dX6_balances_48 : decode cX6_balances 48 = .ok (.invokestatic 128, 3) := by decide +kernel
theorem dX6_balances_51 : decode cX6_balances 51 = .ok (.ifCond .ne 4, 3) := by decide +kernel
theorem dX6_balances_54 : decode cX6_balances 54 = .ok (.return_, 1) := by decide +kernel
theorem dX6_balances_55 : decode cX6_balances 55 = .ok (.aload_n 0, 1) := by decide +kernel
theorem dX6_balances_56 : decode cX6_balances 56 = .ok (.getfield 16, 3) := by decide +kernel
theorem dX6_balances_59 : decode cX6_balances 59 = .ok (.bipush 64, 2) := by decide +kernel
theorem dX6_balances_61 : decode cX6_balances 61 = .ok (.iload_n 1, 1) := by decide +kernel
theorem dX6_balances_62 : decode cX6_balances 62 = .ok (.imul, 1) := by decide +kernel
theorem dX6_balances_63 : decode cX6_balances 63 = .ok (.iload_n 2, 1) := by decide +kernel
theorem dX6_balances_64 : decode cX6_balances 64 = .ok (.iadd, 1) := by decide +kernel
theorem dX6_balances_65 : decode cX6_balances 65 = .ok (.iaload, 1) := by decide +kernel
theorem dX6_balances_66 : decode cX6_balances 66 = .ok (.istore_n 3, 1) := by decide +kernel
theorem dX6_balances_67 : decode cX6_balances 67 = .ok (.iload_n 3, 1) := by decide +kernel
theorem dX6_balances_68 : decode cX6_balances 68 = .ok (.ifCond .lt 27, 3) := by decide +kernel
theorem dX6_balances_71 : decode cX6_balances 71 = .ok (.aload_n 0, 1) := by decide +kernel
theorem dX6_balances_72 : decode cX6_balances 72 = .ok (.iload_n 1, 1) := by decide +kernel
theorem dX6_balances_73 : decode cX6_balances 73 = .ok (.iload_n 3, 1) := by decide +kernel
theorem dX6_balances_74 : decode cX6_balances 74 = .ok (.invokevirtual 132, 3) := by decide +kernel
theorem dX6_balances_77 : decode cX6_balances 77 = .ok (.ifCond .ne 18, 3) := by decide +kernel
theorem dX6_balances_80 : decode cX6_balances 80 = .ok (.aload_n 0, 1) := by decide +kernel
theorem dX6_balances_81 : decode cX6_balances 81 = .ok (.getfield 16, 3) := by decide +kernel
theorem dX6_balances_84 : decode cX6_balances 84 = .ok (.bipush 64, 2) := by decide +kernel
theorem dX6_balances_86 : decode cX6_balances 86 = .ok (.iload_n 1, 1) := by decide +kernel
theorem dX6_balances_87 : decode cX6_balances 87 = .ok (.imul, 1) := by decide +kernel
theorem dX6_balances_88 : decode cX6_balances 88 = .ok (.iload_n 3, 1) := by decide +kernel
theorem dX6_balances_89 : decode cX6_balances 89 = .ok (.iadd, 1) := by decide +kernel
theorem dX6_balances_90 : decode cX6_balances 90 = .ok (.iaload, 1) := by decide +kernel
theorem dX6_balances_91 : decode cX6_balances 91 = .ok (.istore_n 3, 1) := by decide +kernel
theorem dX6_balances_92 : decode cX6_balances 92 = .ok (.goto (-25), 3) := by decide +kernel
theorem dX6_balances_95 : decode cX6_balances 95 = .ok (.iload_n 3, 1) := by decide +kernel
theorem dX6_balances_96 : decode cX6_balances 96 = .ok (.ifCond .lt 9, 3) := by decide +kernel
theorem dX6_balances_99 : decode cX6_balances 99 = .ok (.aload_n 0, 1) := by decide +kernel
theorem dX6_balances_100 : decode cX6_balances 100 = .ok (.iload_n 1, 1) := by decide +kernel
theorem dX6_balances_101 : decode cX6_balances 101 = .ok (.iload_n 3, 1) := by decide +kernel
theorem dX6_balances_102 : decode cX6_balances 102 = .ok (.invokevirtual 135, 3) := by decide +kernel
theorem dX6_balances_105 : decode cX6_balances 105 = .ok (.return_, 1) := by decide +kernel
set_option maxRecDepth 20000 in
theorem ggX6_leans_X6_sizeOf : GoodIn wsX6_leans wsX6_sizeOf := goodIn_r _ [7, 1, 2, 3, 4, 5, 6, 8, 9, 10, 11, 12, 13, 14, 15, 16, 17, 18, 19, 20, 21, 22, 23, 24, 25, 26, 27, 28, 29, 30, 31, 32, 33, 34, 35] (by decide +kernel) (by decide +kernel)
set_option maxRecDepth 20000 in
theorem gX6_leans_X6_sizeOf : GoodIn wsX6_leans (wsV RX6 88 RX6 yX6_sizeOf wsX6_sizeOf) := goodIn_app (goodIn_of _ (by decide +kernel)) ggX6_leans_X6_sizeOf
theorem dX6_leans_0 : decode cX6_leans 0 = .ok (.iconst 2, 1) := by decide +kernel
theorem dX6_leans_1 : decode cX6_leans 1 = .ok (.aload_n 0, 1) := by decide +kernel
theorem dX6_leans_2 : decode cX6_leans 2 = .ok (.iload_n 1, 1) := by decide +kernel
theorem dX6_leans_3 : decode cX6_leans 3 = .ok (.iload_n 2, 1) := by decide +kernel
theorem dX6_leans_4 : decode cX6_leans 4 = .ok (.invokevirtual 88, 3) := by decide +kernel
theorem dX6_leans_7 : decode cX6_leans 7 = .ok (.imul, 1) := by decide +kernel
theorem dX6_leans_8 : decode cX6_leans 8 = .ok (.istore_n 3, 1) := by decide +kernel
theorem dX6_leans_9 : decode cX6_leans 9 = .ok (.iconst 3, 1) := by decide +kernel
theorem dX6_leans_10 : decode cX6_leans 10 = .ok (.aload_n 0, 1) := by decide +kernel
theorem dX6_leans_11 : decode cX6_leans 11 = .ok (.iload_n 1, 1) := by decide +kernel
theorem dX6_leans_12 : decode cX6_leans 12 = .ok (.aload_n 0, 1) := by decide +kernel
theorem dX6_leans_13 : decode cX6_leans 13 = .ok (.getfield 19, 3) := by decide +kernel
theorem dX6_leans_16 : decode cX6_leans 16 = .ok (.bipush 64, 2) := by decide +kernel
theorem dX6_leans_18 : decode cX6_leans 18 = .ok (.iload_n 1, 1) := by decide +kernel
theorem dX6_leans_19 : decode cX6_leans 19 = .ok (.imul, 1) := by decide +kernel
theorem dX6_leans_20 : decode cX6_leans 20 = .ok (.iload_n 2, 1) := by decide +kernel
theorem dX6_leans_21 : decode cX6_leans 21 = .ok (.iadd, 1) := by decide +kernel
theorem dX6_leans_22 : decode cX6_leans 22 = .ok (.iaload, 1) := by decide +kernel
theorem dX6_leans_23 : decode cX6_leans 23 = .ok (.invokevirtual 88, 3) := by decide +kernel
theorem dX6_leans_26 : decode cX6_leans 26 = .ok (.imul, 1) := by decide +kernel
theorem dX6_leans_27 : decode cX6_leans 27 = .ok (.iload_n 3, 1) := by decide +kernel
theorem dX6_leans_28 : decode cX6_leans 28 = .ok (.if_icmp .gt 25, 3) := by decide +kernel
theorem dX6_leans_31 : decode cX6_leans 31 = .ok (.iconst 3, 1) := by decide +kernel
theorem dX6_leans_32 : decode cX6_leans 32 = .ok (.aload_n 0, 1) := by decide +kernel
theorem dX6_leans_33 : decode cX6_leans 33 = .ok (.iload_n 1, 1) := by decide +kernel
theorem dX6_leans_34 : decode cX6_leans 34 = .ok (.aload_n 0, 1) := by decide +kernel
theorem dX6_leans_35 : decode cX6_leans 35 = .ok (.getfield 22, 3) := by decide +kernel
theorem dX6_leans_38 : decode cX6_leans 38 = .ok (.bipush 64, 2) := by decide +kernel
theorem dX6_leans_40 : decode cX6_leans 40 = .ok (.iload_n 1, 1) := by decide +kernel
theorem dX6_leans_41 : decode cX6_leans 41 = .ok (.imul, 1) := by decide +kernel
theorem dX6_leans_42 : decode cX6_leans 42 = .ok (.iload_n 2, 1) := by decide +kernel
theorem dX6_leans_43 : decode cX6_leans 43 = .ok (.iadd, 1) := by decide +kernel
theorem dX6_leans_44 : decode cX6_leans 44 = .ok (.iaload, 1) := by decide +kernel
theorem dX6_leans_45 : decode cX6_leans 45 = .ok (.invokevirtual 88, 3) := by decide +kernel
theorem dX6_leans_48 : decode cX6_leans 48 = .ok (.imul, 1) := by decide +kernel
theorem dX6_leans_49 : decode cX6_leans 49 = .ok (.iload_n 3, 1) := by decide +kernel
theorem dX6_leans_50 : decode cX6_leans 50 = .ok (.if_icmp .le 7, 3) := by decide +kernel
theorem dX6_leans_53 : decode cX6_leans 53 = .ok (.iconst 1, 1) := by decide +kernel
theorem dX6_leans_54 : decode cX6_leans 54 = .ok (.goto 4, 3) := by decide +kernel
theorem dX6_leans_57 : decode cX6_leans 57 = .ok (.iconst 0, 1) := by decide +kernel
theorem dX6_leans_58 : decode cX6_leans 58 = .ok (.ireturn, 1) := by decide +kernel
set_option maxRecDepth 20000 in
theorem ggX6_sorts_X6_sorts : GoodIn wsX6_sorts wsX6_sorts := goodIn_r _ [0, 1, 2, 3, 4, 5, 6, 7, 8, 9, 10, 11, 12, 13, 14, 15, 16, 17, 18, 19, 20, 21, 22, 23, 24, 25, 26, 27, 28, 29, 30, 31, 32, 33, 34, 35, 36] (by decide +kernel) (by decide +kernel)
set_option maxRecDepth 20000 in
theorem gX6_sorts_X6_sorts : GoodIn wsX6_sorts (wsV RX6 138 RX6 yX6_sorts wsX6_sorts) := goodIn_app (goodIn_of _ (by decide +kernel)) ggX6_sorts_X6_sorts
theorem dX6_sorts_0 : decode cX6_sorts 0 = .ok (.iload_n 2, 1) := by decide +kernel
theorem dX6_sorts_1 : decode cX6_sorts 1 = .ok (.ifCond .lt 55, 3) := by decide +kernel
theorem dX6_sorts_4 : decode cX6_sorts 4 = .ok (.aload_n 0, 1) := by decide +kernel
theorem dX6_sorts_5 : decode cX6_sorts 5 = .ok (.iload_n 1, 1) := by decide +kernel
theorem dX6_sorts_6 : decode cX6_sorts 6 = .ok (.aload_n 0, 1) := by decide +kernel
theorem dX6_sorts_7 : decode cX6_sorts 7 = .ok (.getfield 19, 3) := by decide +kernel
theorem dX6_sorts_10 : decode cX6_sorts 10 = .ok (.bipush 64, 2) := by decide +kernel
theorem dX6_sorts_12 : decode cX6_sorts 12 = .ok (.iload_n 1, 1) := by decide +kernel
theorem dX6_sorts_13 : decode cX6_sorts 13 = .ok (.imul, 1) := by decide +kernel
theorem dX6_sorts_14 : decode cX6_sorts 14 = .ok (.iload_n 2, 1) := by decide +kernel
theorem dX6_sorts_15 : decode cX6_sorts 15 = .ok (.iadd, 1) := by decide +kernel
theorem dX6_sorts_16 : decode cX6_sorts 16 = .ok (.iaload, 1) := by decide +kernel
theorem dX6_sorts_17 : decode cX6_sorts 17 = .ok (.invokevirtual 138, 3) := by decide +kernel
theorem dX6_sorts_20 : decode cX6_sorts 20 = .ok (.aload_n 0, 1) := by decide +kernel
theorem dX6_sorts_21 : decode cX6_sorts 21 = .ok (.getfield 47, 3) := by decide +kernel
theorem dX6_sorts_24 : decode cX6_sorts 24 = .ok (.aload_n 0, 1) := by decide +kernel
theorem dX6_sorts_25 : decode cX6_sorts 25 = .ok (.getfield 141, 3) := by decide +kernel
theorem dX6_sorts_28 : decode cX6_sorts 28 = .ok (.iload_n 2, 1) := by decide +kernel
theorem dX6_sorts_29 : decode cX6_sorts 29 = .ok (.iastore, 1) := by decide +kernel
theorem dX6_sorts_30 : decode cX6_sorts 30 = .ok (.aload_n 0, 1) := by decide +kernel
theorem dX6_sorts_31 : decode cX6_sorts 31 = .ok (.dup, 1) := by decide +kernel
theorem dX6_sorts_32 : decode cX6_sorts 32 = .ok (.getfield 141, 3) := by decide +kernel
theorem dX6_sorts_35 : decode cX6_sorts 35 = .ok (.iconst 1, 1) := by decide +kernel
theorem dX6_sorts_36 : decode cX6_sorts 36 = .ok (.iadd, 1) := by decide +kernel
theorem dX6_sorts_37 : decode cX6_sorts 37 = .ok (.putfield 141, 3) := by decide +kernel
theorem dX6_sorts_40 : decode cX6_sorts 40 = .ok (.aload_n 0, 1) := by decide +kernel
theorem dX6_sorts_41 : decode cX6_sorts 41 = .ok (.iload_n 1, 1) := by decide +kernel
theorem dX6_sorts_42 : decode cX6_sorts 42 = .ok (.aload_n 0, 1) := by decide +kernel
theorem dX6_sorts_43 : decode cX6_sorts 43 = .ok (.getfield 22, 3) := by decide +kernel
theorem dX6_sorts_46 : decode cX6_sorts 46 = .ok (.bipush 64, 2) := by decide +kernel
theorem dX6_sorts_48 : decode cX6_sorts 48 = .ok (.iload_n 1, 1) := by decide +kernel
theorem dX6_sorts_49 : decode cX6_sorts 49 = .ok (.imul, 1) := by decide +kernel
theorem dX6_sorts_50 : decode cX6_sorts 50 = .ok (.iload_n 2, 1) := by decide +kernel
theorem dX6_sorts_51 : decode cX6_sorts 51 = .ok (.iadd, 1) := by decide +kernel
theorem dX6_sorts_52 : decode cX6_sorts 52 = .ok (.iaload, 1) := by decide +kernel
theorem dX6_sorts_53 : decode cX6_sorts 53 = .ok (.invokevirtual 138, 3) := by decide +kernel
theorem dX6_sorts_56 : decode cX6_sorts 56 = .ok (.return_, 1) := by decide +kernel
set_option maxRecDepth 20000 in
theorem ggX6_even_X6_even : GoodIn wsX6_even wsX6_even := goodIn_r _ [0, 1, 2, 3, 4, 5, 6, 7, 8, 9, 10, 11, 12, 13, 14, 15, 16, 17, 18, 19, 20, 21, 22, 23, 24, 25, 26, 27, 28, 29, 30, 31, 32, 33, 34, 35, 36, 37, 38, 39, 40, 41, 42, 43, 44] (by decide +kernel) (by decide +kernel)
set_option maxRecDepth 20000 in
theorem gX6_even_X6_even : GoodIn wsX6_even (wsV RX6 144 RX6 yX6_even wsX6_even) := goodIn_app (goodIn_of _ (by decide +kernel)) ggX6_even_X6_even
set_option maxRecDepth 20000 in
theorem ggX6_even_X6_hangsLeft : GoodIn wsX6_even wsX6_hangsLeft := goodIn_r _ [9, 10, 11, 17, 18, 19, 20, 21, 22, 23, 24, 25, 26, 27, 28, 29, 30, 31, 32, 33, 34, 35, 36, 37, 38, 39, 40, 41, 42, 43, 44] (by decide +kernel) (by decide +kernel)
set_option maxRecDepth 20000 in
theorem gX6_even_X6_hangsLeft : GoodIn wsX6_even (wsV RX6 96 RX6 yX6_hangsLeft wsX6_hangsLeft) := goodIn_app (goodIn_of _ (by decide +kernel)) ggX6_even_X6_hangsLeft
set_option maxRecDepth 20000 in
theorem ggX6_even_X6_hangsRight : GoodIn wsX6_even wsX6_hangsRight := goodIn_r _ [15, 16, 11, 17, 18, 19, 20, 21, 22, 23, 24, 25, 26, 27, 28, 29, 30, 31, 32, 33, 34, 35, 36, 37, 38, 39, 40, 41, 42, 43, 44] (by decide +kernel) (by decide +kernel)
set_option maxRecDepth 20000 in
theorem gX6_even_X6_hangsRight : GoodIn wsX6_even (wsV RX6 99 RX6 yX6_hangsRight wsX6_hangsRight) := goodIn_app (goodIn_of _ (by decide +kernel)) ggX6_even_X6_hangsRight
theorem dX6_even_0 : decode cX6_even 0 = .ok (.iload_n 2, 1) := by decide +kernel
theorem dX6_even_1 : decode cX6_even 1 = .ok (.iload_n 3, 1) := by decide +kernel
theorem dX6_even_2 : decode cX6_even 2 = .ok (.if_icmp .le 5, 3) := by decide +kernel
theorem dX6_even_5 : decode cX6_even 5 = .ok (.iconst (-1), 1) := by decide +kernel
theorem dX6_even_6 : decode cX6_even 6 = .ok (.ireturn, 1) := by decide +kernel
theorem dX6_even_7 : decode cX6_even 7 = .ok (.aload_n 0, 1) := by decide +kernel
theorem dX6_even_8 : decode cX6_even 8 = .ok (.getfield 47, 3) := by decide +kernel
theorem dX6_even_11 : decode cX6_even 11 = .ok (.iload_n 2, 1) := by decide +kernel
theorem dX6_even_12 : decode cX6_even 12 = .ok (.iload_n 3, 1) := by decide +kernel
theorem dX6_even_13 : decode cX6_even 13 = .ok (.iadd, 1) := by decide +kernel
theorem dX6_even_14 : decode cX6_even 14 = .ok (.iconst 2, 1) := by decide +kernel
theorem dX6_even_15 : decode cX6_even 15 = .ok (.idiv, 1) := by decide +kernel
theorem dX6_even_16 : decode cX6_even 16 = .ok (.iaload, 1) := by decide +kernel
theorem dX6_even_17 : decode cX6_even 17 = .ok (.istore 4, 2) := by decide +kernel
theorem dX6_even_19 : decode cX6_even 19 = .ok (.aload_n 0, 1) := by decide +kernel
theorem dX6_even_20 : decode cX6_even 20 = .ok (.iload_n 1, 1) := by decide +kernel
theorem dX6_even_21 : decode cX6_even 21 = .ok (.aload_n 0, 1) := by decide +kernel
theorem dX6_even_22 : decode cX6_even 22 = .ok (.iload_n 1, 1) := by decide +kernel
theorem dX6_even_23 : decode cX6_even 23 = .ok (.iload_n 2, 1) := by decide +kernel
theorem dX6_even_24 : decode cX6_even 24 = .ok (.iload_n 2, 1) := by decide +kernel
theorem dX6_even_25 : decode cX6_even 25 = .ok (.iload_n 3, 1) := by decide +kernel
theorem dX6_even_26 : decode cX6_even 26 = .ok (.iadd, 1) := by decide +kernel
theorem dX6_even_27 : decode cX6_even 27 = .ok (.iconst 2, 1) := by decide +kernel
theorem dX6_even_28 : decode cX6_even 28 = .ok (.idiv, 1) := by decide +kernel
theorem dX6_even_29 : decode cX6_even 29 = .ok (.iconst 1, 1) := by decide +kernel
theorem dX6_even_30 : decode cX6_even 30 = .ok (.isub, 1) := by decide +kernel
theorem dX6_even_31 : decode cX6_even 31 = .ok (.invokevirtual 144, 3) := by decide +kernel
theorem dX6_even_34 : decode cX6_even 34 = .ok (.iload 4, 2) := by decide +kernel
theorem dX6_even_36 : decode cX6_even 36 = .ok (.invokevirtual 96, 3) := by decide +kernel
theorem dX6_even_39 : decode cX6_even 39 = .ok (.aload_n 0, 1) := by decide +kernel
theorem dX6_even_40 : decode cX6_even 40 = .ok (.iload_n 1, 1) := by decide +kernel
theorem dX6_even_41 : decode cX6_even 41 = .ok (.aload_n 0, 1) := by decide +kernel
theorem dX6_even_42 : decode cX6_even 42 = .ok (.iload_n 1, 1) := by decide +kernel
theorem dX6_even_43 : decode cX6_even 43 = .ok (.iload_n 2, 1) := by decide +kernel
theorem dX6_even_44 : decode cX6_even 44 = .ok (.iload_n 3, 1) := by decide +kernel
theorem dX6_even_45 : decode cX6_even 45 = .ok (.iadd, 1) := by decide +kernel
theorem dX6_even_46 : decode cX6_even 46 = .ok (.iconst 2, 1) := by decide +kernel
theorem dX6_even_47 : decode cX6_even 47 = .ok (.idiv, 1) := by decide +kernel
theorem dX6_even_48 : decode cX6_even 48 = .ok (.iconst 1, 1) := by decide +kernel
theorem dX6_even_49 : decode cX6_even 49 = .ok (.iadd, 1) := by decide +kernel
theorem dX6_even_50 : decode cX6_even 50 = .ok (.iload_n 3, 1) := by decide +kernel
theorem dX6_even_51 : decode cX6_even 51 = .ok (.invokevirtual 144, 3) := by decide +kernel
theorem dX6_even_54 : decode cX6_even 54 = .ok (.iload 4, 2) := by decide +kernel
theorem dX6_even_56 : decode cX6_even 56 = .ok (.invokevirtual 99, 3) := by decide +kernel
theorem dX6_even_59 : decode cX6_even 59 = .ok (.iload 4, 2) := by decide +kernel
theorem dX6_even_61 : decode cX6_even 61 = .ok (.ireturn, 1) := by decide +kernel
set_option maxRecDepth 20000 in
theorem ggX6_makesEven_X6_sorts : GoodIn wsX6_makesEven wsX6_sorts := goodIn_r _ [12, 2, 13, 3, 7, 8, 9, 10, 11, 26, 27, 28, 29, 30, 31, 32, 33, 34, 35, 36, 37, 38, 39, 40, 41, 42, 43, 44, 45, 46, 47, 48, 49, 50, 51, 52, 53] (by decide +kernel) (by decide +kernel)
set_option maxRecDepth 20000 in
theorem gX6_makesEven_X6_sorts : GoodIn wsX6_makesEven (wsV RX6 138 RX6 yX6_sorts wsX6_sorts) := goodIn_app (goodIn_of _ (by decide +kernel)) ggX6_makesEven_X6_sorts
set_option maxRecDepth 20000 in
theorem ggX6_makesEven_X6_even : GoodIn wsX6_makesEven wsX6_even := goodIn_r _ [17, 13, 14, 15, 16, 11, 18, 19, 20, 21, 2, 1, 22, 23, 24, 25, 7, 26, 27, 28, 29, 30, 31, 32, 33, 34, 35, 36, 37, 38, 39, 40, 41, 42, 43, 44, 45, 46, 47, 48, 49, 50, 51, 52, 53] (by decide +kernel) (by decide +kernel)
set_option maxRecDepth 20000 in
theorem gX6_makesEven_X6_even : GoodIn wsX6_makesEven (wsV RX6 144 RX6 yX6_even wsX6_even) := goodIn_app (goodIn_of _ (by decide +kernel)) ggX6_makesEven_X6_even
theorem dX6_makesEven_0 : decode cX6_makesEven 0 = .ok (.aload_n 0, 1) := by decide +kernel
theorem dX6_makesEven_1 : decode cX6_makesEven 1 = .ok (.getfield 16, 3) := by decide +kernel
theorem dX6_makesEven_4 : decode cX6_makesEven 4 = .ok (.bipush 64, 2) := by decide +kernel
theorem dX6_makesEven_6 : decode cX6_makesEven 6 = .ok (.iload_n 1, 1) := by decide +kernel
theorem dX6_makesEven_7 : decode cX6_makesEven 7 = .ok (.imul, 1) := by decide +kernel
theorem dX6_makesEven_8 : decode cX6_makesEven 8 = .ok (.iload_n 2, 1) := by decide +kernel
theorem dX6_makesEven_9 : decode cX6_makesEven 9 = .ok (.iadd, 1) := by decide +kernel
theorem dX6_makesEven_10 : decode cX6_makesEven 10 = .ok (.iaload, 1) := by decide +kernel
theorem dX6_makesEven_11 : decode cX6_makesEven 11 = .ok (.istore_n 3, 1) := by decide +kernel
theorem dX6_makesEven_12 : decode cX6_makesEven 12 = .ok (.iload_n 3, 1) := by decide +kernel
theorem dX6_makesEven_13 : decode cX6_makesEven 13 = .ok (.ifCond .lt 22, 3) := by decide +kernel
theorem dX6_makesEven_16 : decode cX6_makesEven 16 = .ok (.aload_n 0, 1) := by decide +kernel
theorem dX6_makesEven_17 : decode cX6_makesEven 17 = .ok (.getfield 19, 3) := by decide +kernel
theorem dX6_makesEven_20 : decode cX6_makesEven 20 = .ok (.bipush 64, 2) := by decide +kernel
theorem dX6_makesEven_22 : decode cX6_makesEven 22 = .ok (.iload_n 1, 1) := by decide +kernel
theorem dX6_makesEven_23 : decode cX6_makesEven 23 = .ok (.imul, 1) := by decide +kernel
theorem dX6_makesEven_24 : decode cX6_makesEven 24 = .ok (.iload_n 3, 1) := by decide +kernel
theorem dX6_makesEven_25 : decode cX6_makesEven 25 = .ok (.iadd, 1) := by decide +kernel
theorem dX6_makesEven_26 : decode cX6_makesEven 26 = .ok (.iaload, 1) := by decide +kernel
theorem dX6_makesEven_27 : decode cX6_makesEven 27 = .ok (.iload_n 2, 1) := by decide +kernel
theorem dX6_makesEven_28 : decode cX6_makesEven 28 = .ok (.if_icmp .ne 7, 3) := by decide +kernel
theorem dX6_makesEven_31 : decode cX6_makesEven 31 = .ok (.iconst 1, 1) := by decide +kernel
theorem dX6_makesEven_32 : decode cX6_makesEven 32 = .ok (.goto 4, 3) := by decide +kernel
theorem dX6_makesEven_35 : decode cX6_makesEven 35 = .ok (.iconst 0, 1) := by decide +kernel
theorem dX6_makesEven_36 : decode cX6_makesEven 36 = .ok (.istore 4, 2) := by decide +kernel
theorem dX6_makesEven_38 : decode cX6_makesEven 38 = .ok (.aload_n 0, 1) := by decide +kernel
theorem dX6_makesEven_39 : decode cX6_makesEven 39 = .ok (.iconst 0, 1) := by decide +kernel
theorem dX6_makesEven_40 : decode cX6_makesEven 40 = .ok (.putfield 141, 3) := by decide +kernel
theorem dX6_makesEven_43 : decode cX6_makesEven 43 = .ok (.aload_n 0, 1) := by decide +kernel
theorem dX6_makesEven_44 : decode cX6_makesEven 44 = .ok (.iload_n 1, 1) := by decide +kernel
theorem dX6_makesEven_45 : decode cX6_makesEven 45 = .ok (.iload_n 2, 1) := by decide +kernel
theorem dX6_makesEven_46 : decode cX6_makesEven 46 = .ok (.invokevirtual 138, 3) := by decide +kernel
theorem dX6_makesEven_49 : decode cX6_makesEven 49 = .ok (.aload_n 0, 1) := by decide +kernel
theorem dX6_makesEven_50 : decode cX6_makesEven 50 = .ok (.iload_n 1, 1) := by decide +kernel
theorem dX6_makesEven_51 : decode cX6_makesEven 51 = .ok (.iconst 0, 1) := by decide +kernel
theorem dX6_makesEven_52 : decode cX6_makesEven 52 = .ok (.aload_n 0, 1) := by decide +kernel
theorem dX6_makesEven_53 : decode cX6_makesEven 53 = .ok (.getfield 141, 3) := by decide +kernel
theorem dX6_makesEven_56 : decode cX6_makesEven 56 = .ok (.iconst 1, 1) := by decide +kernel
theorem dX6_makesEven_57 : decode cX6_makesEven 57 = .ok (.isub, 1) := by decide +kernel
theorem dX6_makesEven_58 : decode cX6_makesEven 58 = .ok (.invokevirtual 144, 3) := by decide +kernel
theorem dX6_makesEven_61 : decode cX6_makesEven 61 = .ok (.istore 5, 2) := by decide +kernel
theorem dX6_makesEven_63 : decode cX6_makesEven 63 = .ok (.aload_n 0, 1) := by decide +kernel
theorem dX6_makesEven_64 : decode cX6_makesEven 64 = .ok (.getfield 16, 3) := by decide +kernel
theorem dX6_makesEven_67 : decode cX6_makesEven 67 = .ok (.bipush 64, 2) := by decide +kernel
theorem dX6_makesEven_69 : decode cX6_makesEven 69 = .ok (.iload_n 1, 1) := by decide +kernel
theorem dX6_makesEven_70 : decode cX6_makesEven 70 = .ok (.imul, 1) := by decide +kernel
theorem dX6_makesEven_71 : decode cX6_makesEven 71 = .ok (.iload 5, 2) := by decide +kernel
theorem dX6_makesEven_73 : decode cX6_makesEven 73 = .ok (.iadd, 1) := by decide +kernel
theorem dX6_makesEven_74 : decode cX6_makesEven 74 = .ok (.iload_n 3, 1) := by decide +kernel
theorem dX6_makesEven_75 : decode cX6_makesEven 75 = .ok (.iastore, 1) := by decide +kernel
theorem dX6_makesEven_76 : decode cX6_makesEven 76 = .ok (.iload_n 3, 1) := by decide +kernel
theorem dX6_makesEven_77 : decode cX6_makesEven 77 = .ok (.ifCond .ge 26, 3) := by decide +kernel
theorem dX6_makesEven_80 : decode cX6_makesEven 80 = .ok (.aload_n 0, 1) := by decide +kernel
theorem dX6_makesEven_81 : decode cX6_makesEven 81 = .ok (.getfield 13, 3) := by decide +kernel
theorem dX6_makesEven_84 : decode cX6_makesEven 84 = .ok (.iload_n 1, 1) := by decide +kernel
theorem dX6_makesEven_85 : decode cX6_makesEven 85 = .ok (.iload 5, 2) := by decide +kernel
theorem dX6_makesEven_87 : decode cX6_makesEven 87 = .ok (.iastore, 1) := by decide +kernel
theorem dX6_makesEven_88 : decode cX6_makesEven 88 = .ok (.aload_n 0, 1) := by decide +kernel
theorem dX6_makesEven_89 : decode cX6_makesEven 89 = .ok (.getfield 38, 3) := by decide +kernel
theorem dX6_makesEven_92 : decode cX6_makesEven 92 = .ok (.iload_n 1, 1) := by decide +kernel
theorem dX6_makesEven_93 : decode cX6_makesEven 93 = .ok (.aload_n 0, 1) := by decide +kernel
theorem dX6_makesEven_94 : decode cX6_makesEven 94 = .ok (.getfield 29, 3) := by decide +kernel
theorem dX6_makesEven_97 : decode cX6_makesEven 97 = .ok (.iload_n 1, 1) := by decide +kernel
theorem dX6_makesEven_98 : decode cX6_makesEven 98 = .ok (.iaload, 1) := by decide +kernel
theorem dX6_makesEven_99 : decode cX6_makesEven 99 = .ok (.iastore, 1) := by decide +kernel
theorem dX6_makesEven_100 : decode cX6_makesEven 100 = .ok (.goto 37, 3) := by decide +kernel
theorem dX6_makesEven_103 : decode cX6_makesEven 103 = .ok (.iload 4, 2) := by decide +kernel
theorem dX6_makesEven_105 : decode cX6_makesEven 105 = .ok (.ifCond .eq 19, 3) := by decide +kernel
theorem dX6_makesEven_108 : decode cX6_makesEven 108 = .ok (.aload_n 0, 1) := by decide +kernel
theorem dX6_makesEven_109 : decode cX6_makesEven 109 = .ok (.getfield 19, 3) := by decide +kernel
theorem dX6_makesEven_112 : decode cX6_makesEven 112 = .ok (.bipush 64, 2) := by decide +kernel
theorem dX6_makesEven_114 : decode cX6_makesEven 114 = .ok (.iload_n 1, 1) := by decide +kernel
theorem dX6_makesEven_115 : decode cX6_makesEven 115 = .ok (.imul, 1) := by decide +kernel
theorem dX6_makesEven_116 : decode cX6_makesEven 116 = .ok (.iload_n 3, 1) := by decide +kernel
theorem dX6_makesEven_117 : decode cX6_makesEven 117 = .ok (.iadd, 1) := by decide +kernel
theorem dX6_makesEven_118 : decode cX6_makesEven 118 = .ok (.iload 5, 2) := by decide +kernel
theorem dX6_makesEven_120 : decode cX6_makesEven 120 = .ok (.iastore, 1) := by decide +kernel
theorem dX6_makesEven_121 : decode cX6_makesEven 121 = .ok (.goto 16, 3) := by decide +kernel
theorem dX6_makesEven_124 : decode cX6_makesEven 124 = .ok (.aload_n 0, 1) := by decide +kernel
theorem dX6_makesEven_125 : decode cX6_makesEven 125 = .ok (.getfield 22, 3) := by decide +kernel
theorem dX6_makesEven_128 : decode cX6_makesEven 128 = .ok (.bipush 64, 2) := by decide +kernel
theorem dX6_makesEven_130 : decode cX6_makesEven 130 = .ok (.iload_n 1, 1) := by decide +kernel
theorem dX6_makesEven_131 : decode cX6_makesEven 131 = .ok (.imul, 1) := by decide +kernel
theorem dX6_makesEven_132 : decode cX6_makesEven 132 = .ok (.iload_n 3, 1) := by decide +kernel
theorem dX6_makesEven_133 : decode cX6_makesEven 133 = .ok (.iadd, 1) := by decide +kernel
theorem dX6_makesEven_134 : decode cX6_makesEven 134 = .ok (.iload 5, 2) := by decide +kernel
theorem dX6_makesEven_136 : decode cX6_makesEven 136 = .ok (.iastore, 1) := by decide +kernel
theorem dX6_makesEven_137 : decode cX6_makesEven 137 = .ok (.return_, 1) := by decide +kernel
theorem dX6_goes_0 : decode cX6_goes 0 = .ok (.aload_n 0, 1) := by decide +kernel
theorem dX6_goes_1 : decode cX6_goes 1 = .ok (.iconst 0, 1) := by decide +kernel
theorem dX6_goes_2 : decode cX6_goes 2 = .ok (.putfield 148, 3) := by decide +kernel
theorem dX6_goes_5 : decode cX6_goes 5 = .ok (.aload_n 0, 1) := by decide +kernel
theorem dX6_goes_6 : decode cX6_goes 6 = .ok (.iconst (-1), 1) := by decide +kernel
theorem dX6_goes_7 : decode cX6_goes 7 = .ok (.putfield 151, 3) := by decide +kernel
theorem dX6_goes_10 : decode cX6_goes 10 = .ok (.aload_n 0, 1) := by decide +kernel
theorem dX6_goes_11 : decode cX6_goes 11 = .ok (.getfield 13, 3) := by decide +kernel
theorem dX6_goes_14 : decode cX6_goes 14 = .ok (.iload_n 1, 1) := by decide +kernel
theorem dX6_goes_15 : decode cX6_goes 15 = .ok (.iaload, 1) := by decide +kernel
theorem dX6_goes_16 : decode cX6_goes 16 = .ok (.istore_n 3, 1) := by decide +kernel
theorem dX6_goes_17 : decode cX6_goes 17 = .ok (.iload_n 3, 1) := by decide +kernel
theorem dX6_goes_18 : decode cX6_goes 18 = .ok (.ifCond .lt 61, 3) := by decide +kernel
theorem dX6_goes_21 : decode cX6_goes 21 = .ok (.aload_n 0, 1) := by decide +kernel
theorem dX6_goes_22 : decode cX6_goes 22 = .ok (.dup, 1) := by decide +kernel
theorem dX6_goes_23 : decode cX6_goes 23 = .ok (.getfield 148, 3) := by decide +kernel
theorem dX6_goes_26 : decode cX6_goes 26 = .ok (.iconst 1, 1) := by decide +kernel
theorem dX6_goes_27 : decode cX6_goes 27 = .ok (.iadd, 1) := by decide +kernel
theorem dX6_goes_28 : decode cX6_goes 28 = .ok (.putfield 148, 3) := by decide +kernel
theorem dX6_goes_31 : decode cX6_goes 31 = .ok (.aload_n 0, 1) := by decide +kernel
theorem dX6_goes_32 : decode cX6_goes 32 = .ok (.iload_n 3, 1) := by decide +kernel
theorem dX6_goes_33 : decode cX6_goes 33 = .ok (.putfield 151, 3) := by decide +kernel
theorem dX6_goes_36 : decode cX6_goes 36 = .ok (.iload_n 3, 1) := by decide +kernel
theorem dX6_goes_37 : decode cX6_goes 37 = .ok (.iload_n 2, 1) := by decide +kernel
theorem dX6_goes_38 : decode cX6_goes 38 = .ok (.if_icmp .ne 7, 3) := by decide +kernel
theorem dX6_goes_41 : decode cX6_goes 41 = .ok (.iconst (-1), 1) := by decide +kernel
theorem dX6_goes_42 : decode cX6_goes 42 = .ok (.goto 33, 3) := by decide +kernel
theorem dX6_goes_45 : decode cX6_goes 45 = .ok (.iload_n 2, 1) := by decide +kernel
theorem dX6_goes_46 : decode cX6_goes 46 = .ok (.iload_n 3, 1) := by decide +kernel
theorem dX6_goes_47 : decode cX6_goes 47 = .ok (.if_icmp .ge 17, 3) := by decide +kernel
theorem dX6_goes_50 : decode cX6_goes 50 = .ok (.aload_n 0, 1) := by decide +kernel
theorem dX6_goes_51 : decode cX6_goes 51 = .ok (.getfield 19, 3) := by decide +kernel
theorem dX6_goes_54 : decode cX6_goes 54 = .ok (.bipush 64, 2) := by decide +kernel
theorem dX6_goes_56 : decode cX6_goes 56 = .ok (.iload_n 1, 1) := by decide +kernel
theorem dX6_goes_57 : decode cX6_goes 57 = .ok (.imul, 1) := by decide +kernel
theorem dX6_goes_58 : decode cX6_goes 58 = .ok (.iload_n 3, 1) := by decide +kernel
theorem dX6_goes_59 : decode cX6_goes 59 = .ok (.iadd, 1) := by decide +kernel
theorem dX6_goes_60 : decode cX6_goes 60 = .ok (.iaload, 1) := by decide +kernel
theorem dX6_goes_61 : decode cX6_goes 61 = .ok (.goto 14, 3) := by decide +kernel
theorem dX6_goes_64 : decode cX6_goes 64 = .ok (.aload_n 0, 1) := by decide +kernel
theorem dX6_goes_65 : decode cX6_goes 65 = .ok (.getfield 22, 3) := by decide +kernel
theorem dX6_goes_68 : decode cX6_goes 68 = .ok (.bipush 64, 2) := by decide +kernel
theorem dX6_goes_70 : decode cX6_goes 70 = .ok (.iload_n 1, 1) := by decide +kernel
theorem dX6_goes_71 : decode cX6_goes 71 = .ok (.imul, 1) := by decide +kernel
theorem dX6_goes_72 : decode cX6_goes 72 = .ok (.iload_n 3, 1) := by decide +kernel
theorem dX6_goes_73 : decode cX6_goes 73 = .ok (.iadd, 1) := by decide +kernel
theorem dX6_goes_74 : decode cX6_goes 74 = .ok (.iaload, 1) := by decide +kernel
theorem dX6_goes_75 : decode cX6_goes 75 = .ok (.istore_n 3, 1) := by decide +kernel
theorem dX6_goes_76 : decode cX6_goes 76 = .ok (.goto (-59), 3) := by decide +kernel
theorem dX6_goes_79 : decode cX6_goes 79 = .ok (.aload_n 0, 1) := by decide +kernel
theorem dX6_goes_80 : decode cX6_goes 80 = .ok (.getfield 151, 3) := by decide +kernel
theorem dX6_goes_83 : decode cX6_goes 83 = .ok (.iload_n 2, 1) := by decide +kernel
theorem dX6_goes_84 : decode cX6_goes 84 = .ok (.if_icmp .ne 7, 3) := by decide +kernel
theorem dX6_goes_87 : decode cX6_goes 87 = .ok (.iconst 1, 1) := by decide +kernel
theorem dX6_goes_88 : decode cX6_goes 88 = .ok (.goto 4, 3) := by decide +kernel
theorem dX6_goes_91 : decode cX6_goes 91 = .ok (.iconst 0, 1) := by decide +kernel
theorem dX6_goes_92 : decode cX6_goes 92 = .ok (.ireturn, 1) := by decide +kernel
set_option maxRecDepth 20000 in
theorem ggX6_add_X6_isTree : GoodIn wsX6_add wsX6_isTree := goodIn_r _ [14, 15, 96, 97, 98, 99, 100, 101, 102, 103, 104, 105, 106, 107, 108, 109, 110, 111, 112, 113, 114, 115, 116, 117, 118, 119, 120, 121, 122, 123] (by decide +kernel) (by decide +kernel)
set_option maxRecDepth 20000 in
theorem gX6_add_X6_isTree : GoodIn wsX6_add (wsV RX6 154 RX6 yX6_isTree wsX6_isTree) := goodIn_app (goodIn_of _ (by decide +kernel)) ggX6_add_X6_isTree
set_option maxRecDepth 20000 in
theorem ggX6_add_X6_isKey : GoodIn wsX6_add wsX6_isKey := goodIn_r _ [18] (by decide +kernel) (by decide +kernel)
set_option maxRecDepth 20000 in
theorem gX6_add_X6_isKey : GoodIn wsX6_add (va_wsS RX6 158 yX6_isKey wsX6_isKey) := goodIn_app (goodIn_of _ (by decide +kernel)) ggX6_add_X6_isKey
set_option maxRecDepth 20000 in
theorem ggX6_add_X6_goes : GoodIn wsX6_add wsX6_goes := goodIn_r _ [22, 3, 8, 9, 4, 5, 96, 97, 98, 99, 100, 101, 102, 103, 104, 105, 106, 107, 108, 109, 110, 111, 112, 113, 114, 115, 116, 117, 118, 119, 120, 121, 122, 123] (by decide +kernel) (by decide +kernel)
set_option maxRecDepth 20000 in
theorem gX6_add_X6_goes : GoodIn wsX6_add (wsV RX6 161 RX6 yX6_goes wsX6_goes) := goodIn_app (goodIn_of _ (by decide +kernel)) ggX6_add_X6_goes
set_option maxRecDepth 20000 in
theorem ggX6_add_X6_hangsLeft : GoodIn wsX6_add wsX6_hangsLeft := goodIn_r _ [26, 4, 6, 96, 97, 98, 99, 100, 101, 102, 103, 104, 105, 106, 107, 108, 109, 110, 111, 112, 113, 114, 115, 116, 117, 118, 119, 120, 121, 122, 123] (by decide +kernel) (by decide +kernel)
set_option maxRecDepth 20000 in
theorem gX6_add_X6_hangsLeft : GoodIn wsX6_add (wsV RX6 96 RX6 yX6_hangsLeft wsX6_hangsLeft) := goodIn_app (goodIn_of _ (by decide +kernel)) ggX6_add_X6_hangsLeft
set_option maxRecDepth 20000 in
theorem ggX6_add_X6_hangsRight : GoodIn wsX6_add wsX6_hangsRight := goodIn_r _ [30, 5, 6, 96, 97, 98, 99, 100, 101, 102, 103, 104, 105, 106, 107, 108, 109, 110, 111, 112, 113, 114, 115, 116, 117, 118, 119, 120, 121, 122, 123] (by decide +kernel) (by decide +kernel)
set_option maxRecDepth 20000 in
theorem gX6_add_X6_hangsRight : GoodIn wsX6_add (wsV RX6 99 RX6 yX6_hangsRight wsX6_hangsRight) := goodIn_app (goodIn_of _ (by decide +kernel)) ggX6_add_X6_hangsRight
set_option maxRecDepth 20000 in
theorem ggX6_add_X6_actsAdded : GoodIn wsX6_add wsX6_actsAdded := goodIn_r _ [34, 35, 6, 36, 37, 38, 13, 39, 40, 41, 42, 43, 44, 45, 46, 47, 5, 4, 48, 49, 50, 51, 52, 9, 23, 24, 25, 26, 27, 28, 29, 30, 53, 54, 55, 56, 57, 58, 59, 60, 61, 7, 62, 63, 64, 65, 66, 67, 68, 69, 70, 71, 72, 73, 74, 75, 76, 77, 78, 79, 80, 81, 82, 83, 84, 85, 86, 87, 88, 89, 90, 91, 92, 93, 94, 95, 96, 97, 98, 99, 100, 101, 102, 103, 104, 105, 106, 107, 108, 109, 110, 111, 112, 113, 114, 115, 116, 117, 118, 119, 120, 121, 122, 123] (by decide +kernel) (by decide +kernel)
set_option maxRecDepth 20000 in
theorem gX6_add_X6_actsAdded : GoodIn wsX6_add (wsV RX6 164 RX6 yX6_actsAdded wsX6_actsAdded) := goodIn_app (goodIn_of _ (by decide +kernel)) ggX6_add_X6_actsAdded
theorem dX6_add_0 : decode cX6_add 0 = .ok (.aload_n 0, 1) := by decide +kernel
theorem dX6_add_1 : decode cX6_add 1 = .ok (.iconst 0, 1) := by decide +kernel
theorem dX6_add_2 : decode cX6_add 2 = .ok (.putfield 77, 3) := by decide +kernel
theorem dX6_add_5 : decode cX6_add 5 = .ok (.aload_n 0, 1) := by decide +kernel
theorem dX6_add_6 : decode cX6_add 6 = .ok (.iload_n 1, 1) := by decide +kernel
theorem dX6_add_7 : decode cX6_add 7 = .ok (.invokevirtual 154, 3) := by decide +kernel
theorem dX6_add_10 : decode cX6_add 10 = .ok (.ifCond .eq 24, 3) := by decide +kernel
theorem dX6_add_13 : decode cX6_add 13 = .ok (.iload_n 2, 1) := by decide +kernel
theorem dX6_add_14 : decode cX6_add 14 = .ok (.invokestatic 158, 3) := by decide +kernel
theorem dX6_add_17 : decode cX6_add 17 = .ok (.ifCond .eq 17, 3) := by decide +kernel
theorem dX6_add_20 : decode cX6_add 20 = .ok (.aload_n 0, 1) := by decide +kernel
theorem dX6_add_21 : decode cX6_add 21 = .ok (.getfield 25, 3) := by decide +kernel
theorem dX6_add_24 : decode cX6_add 24 = .ok (.bipush 64, 2) := by decide +kernel
theorem dX6_add_26 : decode cX6_add 26 = .ok (.iload_n 1, 1) := by decide +kernel
theorem dX6_add_27 : decode cX6_add 27 = .ok (.imul, 1) := by decide +kernel
theorem dX6_add_28 : decode cX6_add 28 = .ok (.iload_n 2, 1) := by decide +kernel
