theorem dX3_depthOf_23 : decode cX3_depthOf 23 = .ok (.iconst (-1), 1) := by decide +kernel
theorem dX3_depthOf_24 : decode cX3_depthOf 24 = .ok (.if_icmp .eq 15, 3) := by decide +kernel
theorem dX3_depthOf_27 : decode cX3_depthOf 27 = .ok (.iinc 2 1, 3) := by decide +kernel
theorem dX3_depthOf_30 : decode cX3_depthOf 30 = .ok (.aload_n 0, 1) := by decide +kernel
theorem dX3_depthOf_31 : decode cX3_depthOf 31 = .ok (.iload_n 3, 1) := by decide +kernel
theorem dX3_depthOf_32 : decode cX3_depthOf 32 = .ok (.invokevirtual 52, 3) := by decide +kernel
theorem dX3_depthOf_35 : decode cX3_depthOf 35 = .ok (.istore_n 3, 1) := by decide +kernel
theorem dX3_depthOf_36 : decode cX3_depthOf 36 = .ok (.goto (-20), 3) := by decide +kernel
theorem dX3_depthOf_39 : decode cX3_depthOf 39 = .ok (.iload_n 2, 1) := by decide +kernel
theorem dX3_depthOf_40 : decode cX3_depthOf 40 = .ok (.ireturn, 1) := by decide +kernel
set_option maxRecDepth 20000 in
theorem ggX3_greatestDepth_X3_depthOf : GoodIn wsX3_greatestDepth wsX3_depthOf := goodIn_r _ [9, 10, 11, 12, 8, 13, 14, 15, 16, 17, 18, 19, 20, 21, 22, 23, 24, 25, 26, 27, 28, 29, 30, 31, 32, 33] (by decide +kernel) (by decide +kernel)
set_option maxRecDepth 20000 in
theorem gX3_greatestDepth_X3_depthOf : GoodIn wsX3_greatestDepth (wsV RX3 55 RX3 yX3_depthOf wsX3_depthOf) := goodIn_app (goodIn_of _ (by decide +kernel)) ggX3_greatestDepth_X3_depthOf
theorem dX3_greatestDepth_0 : decode cX3_greatestDepth 0 = .ok (.iconst 0, 1) := by decide +kernel
theorem dX3_greatestDepth_1 : decode cX3_greatestDepth 1 = .ok (.istore_n 1, 1) := by decide +kernel
theorem dX3_greatestDepth_2 : decode cX3_greatestDepth 2 = .ok (.iconst 0, 1) := by decide +kernel
theorem dX3_greatestDepth_3 : decode cX3_greatestDepth 3 = .ok (.istore_n 2, 1) := by decide +kernel
theorem dX3_greatestDepth_4 : decode cX3_greatestDepth 4 = .ok (.iload_n 2, 1) := by decide +kernel
theorem dX3_greatestDepth_5 : decode cX3_greatestDepth 5 = .ok (.bipush 64, 2) := by decide +kernel
theorem dX3_greatestDepth_7 : decode cX3_greatestDepth 7 = .ok (.if_icmp .ge 19, 3) := by decide +kernel
theorem dX3_greatestDepth_10 : decode cX3_greatestDepth 10 = .ok (.iload_n 1, 1) := by decide +kernel
theorem dX3_greatestDepth_11 : decode cX3_greatestDepth 11 = .ok (.aload_n 0, 1) := by decide +kernel
theorem dX3_greatestDepth_12 : decode cX3_greatestDepth 12 = .ok (.iload_n 2, 1) := by decide +kernel
theorem dX3_greatestDepth_13 : decode cX3_greatestDepth 13 = .ok (.invokevirtual 55, 3) := by decide +kernel
theorem dX3_greatestDepth_16 : decode cX3_greatestDepth 16 = .ok (.invokestatic 58, 3) := by decide +kernel
theorem dX3_greatestDepth_19 : decode cX3_greatestDepth 19 = .ok (.istore_n 1, 1) := by decide +kernel
theorem dX3_greatestDepth_20 : decode cX3_greatestDepth 20 = .ok (.iinc 2 1, 3) := by decide +kernel
theorem dX3_greatestDepth_23 : decode cX3_greatestDepth 23 = .ok (.goto (-19), 3) := by decide +kernel
theorem dX3_greatestDepth_26 : decode cX3_greatestDepth 26 = .ok (.iload_n 1, 1) := by decide +kernel
theorem dX3_greatestDepth_27 : decode cX3_greatestDepth 27 = .ok (.ireturn, 1) := by decide +kernel
set_option maxRecDepth 20000 in
theorem ggX3_potential_X3_sizeOf : GoodIn wsX3_potential wsX3_sizeOf := goodIn_r _ [5, 6, 7, 8, 9, 10, 11, 12, 13] (by decide +kernel) (by decide +kernel)
set_option maxRecDepth 20000 in
theorem gX3_potential_X3_sizeOf : GoodIn wsX3_potential (wsV RX3 44 RX3 yX3_sizeOf wsX3_sizeOf) := goodIn_app (goodIn_of _ (by decide +kernel)) ggX3_potential_X3_sizeOf
theorem dX3_potential_0 : decode cX3_potential 0 = .ok (.iconst 0, 1) := by decide +kernel
theorem dX3_potential_1 : decode cX3_potential 1 = .ok (.istore_n 1, 1) := by decide +kernel
theorem dX3_potential_2 : decode cX3_potential 2 = .ok (.iconst 0, 1) := by decide +kernel
theorem dX3_potential_3 : decode cX3_potential 3 = .ok (.istore_n 2, 1) := by decide +kernel
theorem dX3_potential_4 : decode cX3_potential 4 = .ok (.iload_n 2, 1) := by decide +kernel
theorem dX3_potential_5 : decode cX3_potential 5 = .ok (.bipush 64, 2) := by decide +kernel
theorem dX3_potential_7 : decode cX3_potential 7 = .ok (.if_icmp .ge 31, 3) := by decide +kernel
theorem dX3_potential_10 : decode cX3_potential 10 = .ok (.aload_n 0, 1) := by decide +kernel
theorem dX3_potential_11 : decode cX3_potential 11 = .ok (.iload_n 2, 1) := by decide +kernel
theorem dX3_potential_12 : decode cX3_potential 12 = .ok (.invokevirtual 44, 3) := by decide +kernel
theorem dX3_potential_15 : decode cX3_potential 15 = .ok (.iconst 2, 1) := by decide +kernel
theorem dX3_potential_16 : decode cX3_potential 16 = .ok (.idiv, 1) := by decide +kernel
theorem dX3_potential_17 : decode cX3_potential 17 = .ok (.istore_n 3, 1) := by decide +kernel
theorem dX3_potential_18 : decode cX3_potential 18 = .ok (.iload_n 3, 1) := by decide +kernel
theorem dX3_potential_19 : decode cX3_potential 19 = .ok (.ifCond .le 13, 3) := by decide +kernel
theorem dX3_potential_22 : decode cX3_potential 22 = .ok (.iinc 1 1, 3) := by decide +kernel
theorem dX3_potential_25 : decode cX3_potential 25 = .ok (.iload_n 3, 1) := by decide +kernel
theorem dX3_potential_26 : decode cX3_potential 26 = .ok (.iconst 2, 1) := by decide +kernel
theorem dX3_potential_27 : decode cX3_potential 27 = .ok (.idiv, 1) := by decide +kernel
theorem dX3_potential_28 : decode cX3_potential 28 = .ok (.istore_n 3, 1) := by decide +kernel
theorem dX3_potential_29 : decode cX3_potential 29 = .ok (.goto (-11), 3) := by decide +kernel
theorem dX3_potential_32 : decode cX3_potential 32 = .ok (.iinc 2 1, 3) := by decide +kernel
theorem dX3_potential_35 : decode cX3_potential 35 = .ok (.goto (-31), 3) := by decide +kernel
theorem dX3_potential_38 : decode cX3_potential 38 = .ok (.iload_n 1, 1) := by decide +kernel
theorem dX3_potential_39 : decode cX3_potential 39 = .ok (.ireturn, 1) := by decide +kernel
set_option maxRecDepth 20000 in
theorem ggX3_lastOnWay_X3_leftOf : GoodIn wsX3_lastOnWay wsX3_leftOf := goodIn_r _ [6, 7, 8, 9, 10, 16, 17, 18, 19, 20, 21, 22] (by decide +kernel) (by decide +kernel)
set_option maxRecDepth 20000 in
theorem gX3_lastOnWay_X3_leftOf : GoodIn wsX3_lastOnWay (wsV RX3 64 RX3 yX3_leftOf wsX3_leftOf) := goodIn_app (goodIn_of _ (by decide +kernel)) ggX3_lastOnWay_X3_leftOf
set_option maxRecDepth 20000 in
theorem ggX3_lastOnWay_X3_rightOf : GoodIn wsX3_lastOnWay wsX3_rightOf := goodIn_r _ [14, 15, 8, 9, 10, 16, 17, 18, 19, 20, 21, 22] (by decide +kernel) (by decide +kernel)
set_option maxRecDepth 20000 in
theorem gX3_lastOnWay_X3_rightOf : GoodIn wsX3_lastOnWay (wsV RX3 67 RX3 yX3_rightOf wsX3_rightOf) := goodIn_app (goodIn_of _ (by decide +kernel)) ggX3_lastOnWay_X3_rightOf
theorem dX3_lastOnWay_0 : decode cX3_lastOnWay 0 = .ok (.aload_n 0, 1) := by decide +kernel
theorem dX3_lastOnWay_1 : decode cX3_lastOnWay 1 = .ok (.getfield 33, 3) := by decide +kernel
theorem dX3_lastOnWay_4 : decode cX3_lastOnWay 4 = .ok (.istore_n 2, 1) := by decide +kernel
theorem dX3_lastOnWay_5 : decode cX3_lastOnWay 5 = .ok (.iconst 0, 1) := by decide +kernel
theorem dX3_lastOnWay_6 : decode cX3_lastOnWay 6 = .ok (.istore_n 3, 1) := by decide +kernel
theorem dX3_lastOnWay_7 : decode cX3_lastOnWay 7 = .ok (.iload_n 3, 1) := by decide +kernel
theorem dX3_lastOnWay_8 : decode cX3_lastOnWay 8 = .ok (.bipush 64, 2) := by decide +kernel
theorem dX3_lastOnWay_10 : decode cX3_lastOnWay 10 = .ok (.if_icmp .ge 45, 3) := by decide +kernel
theorem dX3_lastOnWay_13 : decode cX3_lastOnWay 13 = .ok (.iload_n 2, 1) := by decide +kernel
theorem dX3_lastOnWay_14 : decode cX3_lastOnWay 14 = .ok (.iload_n 1, 1) := by decide +kernel
theorem dX3_lastOnWay_15 : decode cX3_lastOnWay 15 = .ok (.if_icmp .eq 40, 3) := by decide +kernel
theorem dX3_lastOnWay_18 : decode cX3_lastOnWay 18 = .ok (.iload_n 1, 1) := by decide +kernel
theorem dX3_lastOnWay_19 : decode cX3_lastOnWay 19 = .ok (.iload_n 2, 1) := by decide +kernel
theorem dX3_lastOnWay_20 : decode cX3_lastOnWay 20 = .ok (.if_icmp .ge 11, 3) := by decide +kernel
theorem dX3_lastOnWay_23 : decode cX3_lastOnWay 23 = .ok (.aload_n 0, 1) := by decide +kernel
theorem dX3_lastOnWay_24 : decode cX3_lastOnWay 24 = .ok (.iload_n 2, 1) := by decide +kernel
theorem dX3_lastOnWay_25 : decode cX3_lastOnWay 25 = .ok (.invokevirtual 64, 3) := by decide +kernel
theorem dX3_lastOnWay_28 : decode cX3_lastOnWay 28 = .ok (.goto 8, 3) := by decide +kernel
theorem dX3_lastOnWay_31 : decode cX3_lastOnWay 31 = .ok (.aload_n 0, 1) := by decide +kernel
theorem dX3_lastOnWay_32 : decode cX3_lastOnWay 32 = .ok (.iload_n 2, 1) := by decide +kernel
theorem dX3_lastOnWay_33 : decode cX3_lastOnWay 33 = .ok (.invokevirtual 67, 3) := by decide +kernel
theorem dX3_lastOnWay_36 : decode cX3_lastOnWay 36 = .ok (.istore 4, 2) := by decide +kernel
theorem dX3_lastOnWay_38 : decode cX3_lastOnWay 38 = .ok (.iload 4, 2) := by decide +kernel
theorem dX3_lastOnWay_40 : decode cX3_lastOnWay 40 = .ok (.iconst (-1), 1) := by decide +kernel
theorem dX3_lastOnWay_41 : decode cX3_lastOnWay 41 = .ok (.if_icmp .ne 5, 3) := by decide +kernel
theorem dX3_lastOnWay_44 : decode cX3_lastOnWay 44 = .ok (.iload_n 2, 1) := by decide +kernel
theorem dX3_lastOnWay_45 : decode cX3_lastOnWay 45 = .ok (.ireturn, 1) := by decide +kernel
theorem dX3_lastOnWay_46 : decode cX3_lastOnWay 46 = .ok (.iload 4, 2) := by decide +kernel
theorem dX3_lastOnWay_48 : decode cX3_lastOnWay 48 = .ok (.istore_n 2, 1) := by decide +kernel
theorem dX3_lastOnWay_49 : decode cX3_lastOnWay 49 = .ok (.iinc 3 1, 3) := by decide +kernel
theorem dX3_lastOnWay_52 : decode cX3_lastOnWay 52 = .ok (.goto (-45), 3) := by decide +kernel
theorem dX3_lastOnWay_55 : decode cX3_lastOnWay 55 = .ok (.iload_n 2, 1) := by decide +kernel
theorem dX3_lastOnWay_56 : decode cX3_lastOnWay 56 = .ok (.ireturn, 1) := by decide +kernel
set_option maxRecDepth 20000 in
theorem ggX3_leastUnder_X3_leftOf : GoodIn wsX3_leastUnder wsX3_leftOf := goodIn_r _ [5, 6, 7, 8, 9, 10, 11, 12, 13, 14, 15, 16] (by decide +kernel) (by decide +kernel)
set_option maxRecDepth 20000 in
theorem gX3_leastUnder_X3_leftOf : GoodIn wsX3_leastUnder (wsV RX3 64 RX3 yX3_leftOf wsX3_leftOf) := goodIn_app (goodIn_of _ (by decide +kernel)) ggX3_leastUnder_X3_leftOf
theorem dX3_leastUnder_0 : decode cX3_leastUnder 0 = .ok (.iload_n 1, 1) := by decide +kernel
theorem dX3_leastUnder_1 : decode cX3_leastUnder 1 = .ok (.istore_n 2, 1) := by decide +kernel
theorem dX3_leastUnder_2 : decode cX3_leastUnder 2 = .ok (.iconst 0, 1) := by decide +kernel
theorem dX3_leastUnder_3 : decode cX3_leastUnder 3 = .ok (.istore_n 3, 1) := by decide +kernel
theorem dX3_leastUnder_4 : decode cX3_leastUnder 4 = .ok (.iload_n 3, 1) := by decide +kernel
theorem dX3_leastUnder_5 : decode cX3_leastUnder 5 = .ok (.bipush 64, 2) := by decide +kernel
theorem dX3_leastUnder_7 : decode cX3_leastUnder 7 = .ok (.if_icmp .ge 24, 3) := by decide +kernel
theorem dX3_leastUnder_10 : decode cX3_leastUnder 10 = .ok (.aload_n 0, 1) := by decide +kernel
theorem dX3_leastUnder_11 : decode cX3_leastUnder 11 = .ok (.iload_n 2, 1) := by decide +kernel
theorem dX3_leastUnder_12 : decode cX3_leastUnder 12 = .ok (.invokevirtual 64, 3) := by decide +kernel
theorem dX3_leastUnder_15 : decode cX3_leastUnder 15 = .ok (.iconst (-1), 1) := by decide +kernel
theorem dX3_leastUnder_16 : decode cX3_leastUnder 16 = .ok (.if_icmp .eq 15, 3) := by decide +kernel
theorem dX3_leastUnder_19 : decode cX3_leastUnder 19 = .ok (.aload_n 0, 1) := by decide +kernel
theorem dX3_leastUnder_20 : decode cX3_leastUnder 20 = .ok (.iload_n 2, 1) := by decide +kernel
theorem dX3_leastUnder_21 : decode cX3_leastUnder 21 = .ok (.invokevirtual 64, 3) := by decide +kernel
theorem dX3_leastUnder_24 : decode cX3_leastUnder 24 = .ok (.istore_n 2, 1) := by decide +kernel
theorem dX3_leastUnder_25 : decode cX3_leastUnder 25 = .ok (.iinc 3 1, 3) := by decide +kernel
theorem dX3_leastUnder_28 : decode cX3_leastUnder 28 = .ok (.goto (-24), 3) := by decide +kernel
theorem dX3_leastUnder_31 : decode cX3_leastUnder 31 = .ok (.iload_n 2, 1) := by decide +kernel
theorem dX3_leastUnder_32 : decode cX3_leastUnder 32 = .ok (.ireturn, 1) := by decide +kernel
set_option maxRecDepth 20000 in
theorem ggX3_greatestUnder_X3_rightOf : GoodIn wsX3_greatestUnder wsX3_rightOf := goodIn_r _ [5, 6, 7, 8, 9, 10, 11, 12, 13, 14, 15, 16] (by decide +kernel) (by decide +kernel)
set_option maxRecDepth 20000 in
theorem gX3_greatestUnder_X3_rightOf : GoodIn wsX3_greatestUnder (wsV RX3 67 RX3 yX3_rightOf wsX3_rightOf) := goodIn_app (goodIn_of _ (by decide +kernel)) ggX3_greatestUnder_X3_rightOf
theorem dX3_greatestUnder_0 : decode cX3_greatestUnder 0 = .ok (.iload_n 1, 1) := by decide +kernel
theorem dX3_greatestUnder_1 : decode cX3_greatestUnder 1 = .ok (.istore_n 2, 1) := by decide +kernel
theorem dX3_greatestUnder_2 : decode cX3_greatestUnder 2 = .ok (.iconst 0, 1) := by decide +kernel
theorem dX3_greatestUnder_3 : decode cX3_greatestUnder 3 = .ok (.istore_n 3, 1) := by decide +kernel
theorem dX3_greatestUnder_4 : decode cX3_greatestUnder 4 = .ok (.iload_n 3, 1) := by decide +kernel
theorem dX3_greatestUnder_5 : decode cX3_greatestUnder 5 = .ok (.bipush 64, 2) := by decide +kernel
theorem dX3_greatestUnder_7 : decode cX3_greatestUnder 7 = .ok (.if_icmp .ge 24, 3) := by decide +kernel
theorem dX3_greatestUnder_10 : decode cX3_greatestUnder 10 = .ok (.aload_n 0, 1) := by decide +kernel
theorem dX3_greatestUnder_11 : decode cX3_greatestUnder 11 = .ok (.iload_n 2, 1) := by decide +kernel
theorem dX3_greatestUnder_12 : decode cX3_greatestUnder 12 = .ok (.invokevirtual 67, 3) := by decide +kernel
theorem dX3_greatestUnder_15 : decode cX3_greatestUnder 15 = .ok (.iconst (-1), 1) := by decide +kernel
theorem dX3_greatestUnder_16 : decode cX3_greatestUnder 16 = .ok (.if_icmp .eq 15, 3) := by decide +kernel
theorem dX3_greatestUnder_19 : decode cX3_greatestUnder 19 = .ok (.aload_n 0, 1) := by decide +kernel
theorem dX3_greatestUnder_20 : decode cX3_greatestUnder 20 = .ok (.iload_n 2, 1) := by decide +kernel
theorem dX3_greatestUnder_21 : decode cX3_greatestUnder 21 = .ok (.invokevirtual 67, 3) := by decide +kernel
theorem dX3_greatestUnder_24 : decode cX3_greatestUnder 24 = .ok (.istore_n 2, 1) := by decide +kernel
theorem dX3_greatestUnder_25 : decode cX3_greatestUnder 25 = .ok (.iinc 3 1, 3) := by decide +kernel
theorem dX3_greatestUnder_28 : decode cX3_greatestUnder 28 = .ok (.goto (-24), 3) := by decide +kernel
theorem dX3_greatestUnder_31 : decode cX3_greatestUnder 31 = .ok (.iload_n 2, 1) := by decide +kernel
theorem dX3_greatestUnder_32 : decode cX3_greatestUnder 32 = .ok (.ireturn, 1) := by decide +kernel
set_option maxRecDepth 20000 in
theorem ggX3_isBelow_X3_greatestUnder : GoodIn wsX3_isBelow wsX3_greatestUnder := goodIn_r _ [6, 7, 8, 9, 5, 10, 11, 12, 13, 14, 24, 25, 26, 27, 28, 29, 30] (by decide +kernel) (by decide +kernel)
set_option maxRecDepth 20000 in
theorem gX3_isBelow_X3_greatestUnder : GoodIn wsX3_isBelow (wsV RX3 70 RX3 yX3_greatestUnder wsX3_greatestUnder) := goodIn_app (goodIn_of _ (by decide +kernel)) ggX3_isBelow_X3_greatestUnder
set_option maxRecDepth 20000 in
theorem ggX3_isBelow_X3_leastUnder : GoodIn wsX3_isBelow wsX3_leastUnder := goodIn_r _ [18, 19, 20, 21, 5, 22, 23, 12, 13, 14, 24, 25, 26, 27, 28, 29, 30] (by decide +kernel) (by decide +kernel)
set_option maxRecDepth 20000 in
theorem gX3_isBelow_X3_leastUnder : GoodIn wsX3_isBelow (wsV RX3 73 RX3 yX3_leastUnder wsX3_leastUnder) := goodIn_app (goodIn_of _ (by decide +kernel)) ggX3_isBelow_X3_leastUnder
theorem dX3_isBelow_0 : decode cX3_isBelow 0 = .ok (.aload_n 0, 1) := by decide +kernel
theorem dX3_isBelow_1 : decode cX3_isBelow 1 = .ok (.getfield 33, 3) := by decide +kernel
theorem dX3_isBelow_4 : decode cX3_isBelow 4 = .ok (.iconst (-1), 1) := by decide +kernel
theorem dX3_isBelow_5 : decode cX3_isBelow 5 = .ok (.if_icmp .eq 11, 3) := by decide +kernel
theorem dX3_isBelow_8 : decode cX3_isBelow 8 = .ok (.aload_n 1, 1) := by decide +kernel
theorem dX3_isBelow_9 : decode cX3_isBelow 9 = .ok (.getfield 33, 3) := by decide +kernel
theorem dX3_isBelow_12 : decode cX3_isBelow 12 = .ok (.iconst (-1), 1) := by decide +kernel
theorem dX3_isBelow_13 : decode cX3_isBelow 13 = .ok (.if_icmp .ne 5, 3) := by decide +kernel
theorem dX3_isBelow_16 : decode cX3_isBelow 16 = .ok (.iconst 1, 1) := by decide +kernel
theorem dX3_isBelow_17 : decode cX3_isBelow 17 = .ok (.ireturn, 1) := by decide +kernel
theorem dX3_isBelow_18 : decode cX3_isBelow 18 = .ok (.aload_n 0, 1) := by decide +kernel
theorem dX3_isBelow_19 : decode cX3_isBelow 19 = .ok (.aload_n 0, 1) := by decide +kernel
theorem dX3_isBelow_20 : decode cX3_isBelow 20 = .ok (.getfield 33, 3) := by decide +kernel
theorem dX3_isBelow_23 : decode cX3_isBelow 23 = .ok (.invokevirtual 70, 3) := by decide +kernel
theorem dX3_isBelow_26 : decode cX3_isBelow 26 = .ok (.aload_n 1, 1) := by decide +kernel
theorem dX3_isBelow_27 : decode cX3_isBelow 27 = .ok (.aload_n 1, 1) := by decide +kernel
theorem dX3_isBelow_28 : decode cX3_isBelow 28 = .ok (.getfield 33, 3) := by decide +kernel
theorem dX3_isBelow_31 : decode cX3_isBelow 31 = .ok (.invokevirtual 73, 3) := by decide +kernel
theorem dX3_isBelow_34 : decode cX3_isBelow 34 = .ok (.if_icmp .ge 7, 3) := by decide +kernel
theorem dX3_isBelow_37 : decode cX3_isBelow 37 = .ok (.iconst 1, 1) := by decide +kernel
theorem dX3_isBelow_38 : decode cX3_isBelow 38 = .ok (.goto 4, 3) := by decide +kernel
theorem dX3_isBelow_41 : decode cX3_isBelow 41 = .ok (.iconst 0, 1) := by decide +kernel
theorem dX3_isBelow_42 : decode cX3_isBelow 42 = .ok (.ireturn, 1) := by decide +kernel
set_option maxRecDepth 20000 in
theorem ggX3_hang_X5_put : GoodIn wsX3_hang wsX5_put := goodIn_r _ [7] (by decide +kernel) (by decide +kernel)
set_option maxRecDepth 20000 in
theorem gX3_hang_X5_put_n76 : GoodIn wsX3_hang (wsX5_put) := ggX3_hang_X5_put
theorem dX3_hang_0 : decode cX3_hang 0 = .ok (.aload_n 0, 1) := by decide +kernel
theorem dX3_hang_1 : decode cX3_hang 1 = .ok (.getfield 18, 3) := by decide +kernel
theorem dX3_hang_4 : decode cX3_hang 4 = .ok (.iload_n 1, 1) := by decide +kernel
theorem dX3_hang_5 : decode cX3_hang 5 = .ok (.iload_n 2, 1) := by decide +kernel
theorem dX3_hang_6 : decode cX3_hang 6 = .ok (.invokestatic 76, 3) := by decide +kernel
theorem dX3_hang_9 : decode cX3_hang 9 = .ok (.iload_n 2, 1) := by decide +kernel
theorem dX3_hang_10 : decode cX3_hang 10 = .ok (.iconst (-1), 1) := by decide +kernel
theorem dX3_hang_11 : decode cX3_hang 11 = .ok (.if_icmp .ne 11, 3) := by decide +kernel
theorem dX3_hang_14 : decode cX3_hang 14 = .ok (.aload_n 0, 1) := by decide +kernel
theorem dX3_hang_15 : decode cX3_hang 15 = .ok (.iload_n 1, 1) := by decide +kernel
theorem dX3_hang_16 : decode cX3_hang 16 = .ok (.putfield 33, 3) := by decide +kernel
theorem dX3_hang_19 : decode cX3_hang 19 = .ok (.goto 29, 3) := by decide +kernel
theorem dX3_hang_22 : decode cX3_hang 22 = .ok (.iload_n 1, 1) := by decide +kernel
theorem dX3_hang_23 : decode cX3_hang 23 = .ok (.iload_n 2, 1) := by decide +kernel
theorem dX3_hang_24 : decode cX3_hang 24 = .ok (.if_icmp .ge 15, 3) := by decide +kernel
theorem dX3_hang_27 : decode cX3_hang 27 = .ok (.aload_n 0, 1) := by decide +kernel
theorem dX3_hang_28 : decode cX3_hang 28 = .ok (.getfield 9, 3) := by decide +kernel
theorem dX3_hang_31 : decode cX3_hang 31 = .ok (.iload_n 2, 1) := by decide +kernel
theorem dX3_hang_32 : decode cX3_hang 32 = .ok (.iload_n 1, 1) := by decide +kernel
theorem dX3_hang_33 : decode cX3_hang 33 = .ok (.invokestatic 76, 3) := by decide +kernel
theorem dX3_hang_36 : decode cX3_hang 36 = .ok (.goto 12, 3) := by decide +kernel
theorem dX3_hang_39 : decode cX3_hang 39 = .ok (.aload_n 0, 1) := by decide +kernel
theorem dX3_hang_40 : decode cX3_hang 40 = .ok (.getfield 15, 3) := by decide +kernel
theorem dX3_hang_43 : decode cX3_hang 43 = .ok (.iload_n 2, 1) := by decide +kernel
theorem dX3_hang_44 : decode cX3_hang 44 = .ok (.iload_n 1, 1) := by decide +kernel
theorem dX3_hang_45 : decode cX3_hang 45 = .ok (.invokestatic 76, 3) := by decide +kernel
theorem dX3_hang_48 : decode cX3_hang 48 = .ok (.return_, 1) := by decide +kernel
set_option maxRecDepth 20000 in
theorem ggX3_hangLeft_X5_put : GoodIn wsX3_hangLeft wsX5_put := goodIn_r _ [5] (by decide +kernel) (by decide +kernel)
set_option maxRecDepth 20000 in
theorem gX3_hangLeft_X5_put_n76 : GoodIn wsX3_hangLeft (wsX5_put) := ggX3_hangLeft_X5_put
theorem dX3_hangLeft_0 : decode cX3_hangLeft 0 = .ok (.aload_n 0, 1) := by decide +kernel
theorem dX3_hangLeft_1 : decode cX3_hangLeft 1 = .ok (.getfield 9, 3) := by decide +kernel
theorem dX3_hangLeft_4 : decode cX3_hangLeft 4 = .ok (.iload_n 2, 1) := by decide +kernel
theorem dX3_hangLeft_5 : decode cX3_hangLeft 5 = .ok (.iload_n 1, 1) := by decide +kernel
theorem dX3_hangLeft_6 : decode cX3_hangLeft 6 = .ok (.invokestatic 76, 3) := by decide +kernel
theorem dX3_hangLeft_9 : decode cX3_hangLeft 9 = .ok (.aload_n 0, 1) := by decide +kernel
theorem dX3_hangLeft_10 : decode cX3_hangLeft 10 = .ok (.getfield 18, 3) := by decide +kernel
theorem dX3_hangLeft_13 : decode cX3_hangLeft 13 = .ok (.iload_n 1, 1) := by decide +kernel
theorem dX3_hangLeft_14 : decode cX3_hangLeft 14 = .ok (.iload_n 2, 1) := by decide +kernel
theorem dX3_hangLeft_15 : decode cX3_hangLeft 15 = .ok (.invokestatic 76, 3) := by decide +kernel
theorem dX3_hangLeft_18 : decode cX3_hangLeft 18 = .ok (.return_, 1) := by decide +kernel
set_option maxRecDepth 20000 in
theorem ggX3_hangRight_X5_put : GoodIn wsX3_hangRight wsX5_put := goodIn_r _ [5] (by decide +kernel) (by decide +kernel)
set_option maxRecDepth 20000 in
theorem gX3_hangRight_X5_put_n76 : GoodIn wsX3_hangRight (wsX5_put) := ggX3_hangRight_X5_put
theorem dX3_hangRight_0 : decode cX3_hangRight 0 = .ok (.aload_n 0, 1) := by decide +kernel
theorem dX3_hangRight_1 : decode cX3_hangRight 1 = .ok (.getfield 15, 3) := by decide +kernel
theorem dX3_hangRight_4 : decode cX3_hangRight 4 = .ok (.iload_n 2, 1) := by decide +kernel
theorem dX3_hangRight_5 : decode cX3_hangRight 5 = .ok (.iload_n 1, 1) := by decide +kernel
theorem dX3_hangRight_6 : decode cX3_hangRight 6 = .ok (.invokestatic 76, 3) := by decide +kernel
theorem dX3_hangRight_9 : decode cX3_hangRight 9 = .ok (.aload_n 0, 1) := by decide +kernel
theorem dX3_hangRight_10 : decode cX3_hangRight 10 = .ok (.getfield 18, 3) := by decide +kernel
theorem dX3_hangRight_13 : decode cX3_hangRight 13 = .ok (.iload_n 1, 1) := by decide +kernel
theorem dX3_hangRight_14 : decode cX3_hangRight 14 = .ok (.iload_n 2, 1) := by decide +kernel
theorem dX3_hangRight_15 : decode cX3_hangRight 15 = .ok (.invokestatic 76, 3) := by decide +kernel
theorem dX3_hangRight_18 : decode cX3_hangRight 18 = .ok (.return_, 1) := by decide +kernel
set_option maxRecDepth 20000 in
theorem ggX3_hangNew_X3_hang : GoodIn wsX3_hangNew wsX3_hang := goodIn_r _ [5, 6, 7, 8, 9, 10, 11, 12, 32, 33, 34, 35, 36, 37, 38] (by decide +kernel) (by decide +kernel)
set_option maxRecDepth 20000 in
theorem gX3_hangNew_X3_hang : GoodIn wsX3_hangNew (wsV RX3 80 RX3 yX3_hang wsX3_hang) := goodIn_app (goodIn_of _ (by decide +kernel)) ggX3_hangNew_X3_hang
set_option maxRecDepth 20000 in
theorem ggX3_hangNew_X3_resizeUpFrom : GoodIn wsX3_hangNew wsX3_resizeUpFrom := goodIn_r _ [16, 17, 18, 19, 4, 20, 21, 8, 9, 22, 11, 23, 24, 25, 26, 27, 10, 12, 28, 29, 30, 31, 6, 32, 33, 34, 35, 36, 37, 38] (by decide +kernel) (by decide +kernel)
set_option maxRecDepth 20000 in
theorem gX3_hangNew_X3_resizeUpFrom : GoodIn wsX3_hangNew (wsV RX3 84 RX3 yX3_resizeUpFrom wsX3_resizeUpFrom) := goodIn_app (goodIn_of _ (by decide +kernel)) ggX3_hangNew_X3_resizeUpFrom
theorem dX3_hangNew_0 : decode cX3_hangNew 0 = .ok (.aload_n 0, 1) := by decide +kernel
theorem dX3_hangNew_1 : decode cX3_hangNew 1 = .ok (.iload_n 1, 1) := by decide +kernel
theorem dX3_hangNew_2 : decode cX3_hangNew 2 = .ok (.iload_n 2, 1) := by decide +kernel
theorem dX3_hangNew_3 : decode cX3_hangNew 3 = .ok (.invokevirtual 80, 3) := by decide +kernel
theorem dX3_hangNew_6 : decode cX3_hangNew 6 = .ok (.aload_n 0, 1) := by decide +kernel
theorem dX3_hangNew_7 : decode cX3_hangNew 7 = .ok (.iload_n 1, 1) := by decide +kernel
theorem dX3_hangNew_8 : decode cX3_hangNew 8 = .ok (.invokevirtual 84, 3) := by decide +kernel
theorem dX3_hangNew_11 : decode cX3_hangNew 11 = .ok (.return_, 1) := by decide +kernel
set_option maxRecDepth 20000 in
theorem ggX3_takeOff_X3_upOf : GoodIn wsX3_takeOff wsX3_upOf := goodIn_r _ [8, 9, 10, 11, 12, 32, 33, 34, 35, 36, 37, 38] (by decide +kernel) (by decide +kernel)
set_option maxRecDepth 20000 in
theorem gX3_takeOff_X3_upOf : GoodIn wsX3_takeOff (wsV RX3 52 RX3 yX3_upOf wsX3_upOf) := goodIn_app (goodIn_of _ (by decide +kernel)) ggX3_takeOff_X3_upOf
set_option maxRecDepth 20000 in
theorem ggX3_takeOff_X5_put : GoodIn wsX3_takeOff wsX5_put := goodIn_r _ [14] (by decide +kernel) (by decide +kernel)
set_option maxRecDepth 20000 in
theorem gX3_takeOff_X5_put_n76 : GoodIn wsX3_takeOff (wsX5_put) := ggX3_takeOff_X5_put
set_option maxRecDepth 20000 in
theorem ggX3_takeOff_X3_forget : GoodIn wsX3_takeOff wsX3_forget := goodIn_r _ [18, 2, 3, 9, 19, 13, 11, 14, 32, 33, 34, 35, 36, 37, 38] (by decide +kernel) (by decide +kernel)
set_option maxRecDepth 20000 in
theorem gX3_takeOff_X3_forget : GoodIn wsX3_takeOff (wsV RX3 88 RX3 yX3_forget wsX3_forget) := goodIn_app (goodIn_of _ (by decide +kernel)) ggX3_takeOff_X3_forget
set_option maxRecDepth 20000 in
theorem ggX3_takeOff_X3_resizeUpFrom : GoodIn wsX3_takeOff wsX3_resizeUpFrom := goodIn_r _ [23, 24, 25, 26, 7, 27, 19, 2, 3, 10, 11, 12, 28, 29, 30, 31, 13, 14, 4, 5, 6, 8, 9, 32, 33, 34, 35, 36, 37, 38] (by decide +kernel) (by decide +kernel)
set_option maxRecDepth 20000 in
theorem gX3_takeOff_X3_resizeUpFrom : GoodIn wsX3_takeOff (wsV RX3 84 RX3 yX3_resizeUpFrom wsX3_resizeUpFrom) := goodIn_app (goodIn_of _ (by decide +kernel)) ggX3_takeOff_X3_resizeUpFrom
theorem dX3_takeOff_0 : decode cX3_takeOff 0 = .ok (.aload_n 0, 1) := by decide +kernel
theorem dX3_takeOff_1 : decode cX3_takeOff 1 = .ok (.iload_n 1, 1) := by decide +kernel
theorem dX3_takeOff_2 : decode cX3_takeOff 2 = .ok (.invokevirtual 52, 3) := by decide +kernel
theorem dX3_takeOff_5 : decode cX3_takeOff 5 = .ok (.istore_n 2, 1) := by decide +kernel
theorem dX3_takeOff_6 : decode cX3_takeOff 6 = .ok (.iload_n 2, 1) := by decide +kernel
theorem dX3_takeOff_7 : decode cX3_takeOff 7 = .ok (.iconst (-1), 1) := by decide +kernel
theorem dX3_takeOff_8 : decode cX3_takeOff 8 = .ok (.if_icmp .ne 11, 3) := by decide +kernel
theorem dX3_takeOff_11 : decode cX3_takeOff 11 = .ok (.aload_n 0, 1) := by decide +kernel
theorem dX3_takeOff_12 : decode cX3_takeOff 12 = .ok (.iconst (-1), 1) := by decide +kernel
theorem dX3_takeOff_13 : decode cX3_takeOff 13 = .ok (.putfield 33, 3) := by decide +kernel
theorem dX3_takeOff_16 : decode cX3_takeOff 16 = .ok (.goto 29, 3) := by decide +kernel
theorem dX3_takeOff_19 : decode cX3_takeOff 19 = .ok (.iload_n 1, 1) := by decide +kernel
theorem dX3_takeOff_20 : decode cX3_takeOff 20 = .ok (.iload_n 2, 1) := by decide +kernel
theorem dX3_takeOff_21 : decode cX3_takeOff 21 = .ok (.if_icmp .ge 15, 3) := by decide +kernel
theorem dX3_takeOff_24 : decode cX3_takeOff 24 = .ok (.aload_n 0, 1) := by decide +kernel
theorem dX3_takeOff_25 : decode cX3_takeOff 25 = .ok (.getfield 9, 3) := by decide +kernel
theorem dX3_takeOff_28 : decode cX3_takeOff 28 = .ok (.iload_n 2, 1) := by decide +kernel
theorem dX3_takeOff_29 : decode cX3_takeOff 29 = .ok (.iconst (-1), 1) := by decide +kernel
theorem dX3_takeOff_30 : decode cX3_takeOff 30 = .ok (.invokestatic 76, 3) := by decide +kernel
theorem dX3_takeOff_33 : decode cX3_takeOff 33 = .ok (.goto 12, 3) := by decide +kernel
theorem dX3_takeOff_36 : decode cX3_takeOff 36 = .ok (.aload_n 0, 1) := by decide +kernel
theorem dX3_takeOff_37 : decode cX3_takeOff 37 = .ok (.getfield 15, 3) := by decide +kernel
theorem dX3_takeOff_40 : decode cX3_takeOff 40 = .ok (.iload_n 2, 1) := by decide +kernel
theorem dX3_takeOff_41 : decode cX3_takeOff 41 = .ok (.iconst (-1), 1) := by decide +kernel
theorem dX3_takeOff_42 : decode cX3_takeOff 42 = .ok (.invokestatic 76, 3) := by decide +kernel
theorem dX3_takeOff_45 : decode cX3_takeOff 45 = .ok (.aload_n 0, 1) := by decide +kernel
theorem dX3_takeOff_46 : decode cX3_takeOff 46 = .ok (.iload_n 1, 1) := by decide +kernel
theorem dX3_takeOff_47 : decode cX3_takeOff 47 = .ok (.invokevirtual 88, 3) := by decide +kernel
theorem dX3_takeOff_50 : decode cX3_takeOff 50 = .ok (.aload_n 0, 1) := by decide +kernel
theorem dX3_takeOff_51 : decode cX3_takeOff 51 = .ok (.iload_n 2, 1) := by decide +kernel
theorem dX3_takeOff_52 : decode cX3_takeOff 52 = .ok (.invokevirtual 84, 3) := by decide +kernel
theorem dX3_takeOff_55 : decode cX3_takeOff 55 = .ok (.return_, 1) := by decide +kernel
set_option maxRecDepth 20000 in
theorem ggX3_forget_X5_put : GoodIn wsX3_forget wsX5_put := goodIn_r _ [7] (by decide +kernel) (by decide +kernel)
set_option maxRecDepth 20000 in
theorem gX3_forget_X5_put_n76 : GoodIn wsX3_forget (wsX5_put) := ggX3_forget_X5_put
theorem dX3_forget_0 : decode cX3_forget 0 = .ok (.aload_n 0, 1) := by decide +kernel
theorem dX3_forget_1 : decode cX3_forget 1 = .ok (.getfield 9, 3) := by decide +kernel
theorem dX3_forget_4 : decode cX3_forget 4 = .ok (.iload_n 1, 1) := by decide +kernel
theorem dX3_forget_5 : decode cX3_forget 5 = .ok (.iconst (-1), 1) := by decide +kernel
theorem dX3_forget_6 : decode cX3_forget 6 = .ok (.invokestatic 76, 3) := by decide +kernel
theorem dX3_forget_9 : decode cX3_forget 9 = .ok (.aload_n 0, 1) := by decide +kernel
theorem dX3_forget_10 : decode cX3_forget 10 = .ok (.getfield 15, 3) := by decide +kernel
theorem dX3_forget_13 : decode cX3_forget 13 = .ok (.iload_n 1, 1) := by decide +kernel
theorem dX3_forget_14 : decode cX3_forget 14 = .ok (.iconst (-1), 1) := by decide +kernel
theorem dX3_forget_15 : decode cX3_forget 15 = .ok (.invokestatic 76, 3) := by decide +kernel
theorem dX3_forget_18 : decode cX3_forget 18 = .ok (.aload_n 0, 1) := by decide +kernel
theorem dX3_forget_19 : decode cX3_forget 19 = .ok (.getfield 18, 3) := by decide +kernel
theorem dX3_forget_22 : decode cX3_forget 22 = .ok (.iload_n 1, 1) := by decide +kernel
theorem dX3_forget_23 : decode cX3_forget 23 = .ok (.iconst (-1), 1) := by decide +kernel
theorem dX3_forget_24 : decode cX3_forget 24 = .ok (.invokestatic 76, 3) := by decide +kernel
theorem dX3_forget_27 : decode cX3_forget 27 = .ok (.aload_n 0, 1) := by decide +kernel
theorem dX3_forget_28 : decode cX3_forget 28 = .ok (.getfield 21, 3) := by decide +kernel
theorem dX3_forget_31 : decode cX3_forget 31 = .ok (.iload_n 1, 1) := by decide +kernel
theorem dX3_forget_32 : decode cX3_forget 32 = .ok (.iconst 0, 1) := by decide +kernel
theorem dX3_forget_33 : decode cX3_forget 33 = .ok (.invokestatic 76, 3) := by decide +kernel
theorem dX3_forget_36 : decode cX3_forget 36 = .ok (.return_, 1) := by decide +kernel
set_option maxRecDepth 20000 in
theorem ggX3_resize_X5_at : GoodIn wsX3_resize wsX5_at := goodIn_r _ [6] (by decide +kernel) (by decide +kernel)
set_option maxRecDepth 20000 in
theorem gX3_resize_X5_at_n40 : GoodIn wsX3_resize (wsX5_at) := ggX3_resize_X5_at
set_option maxRecDepth 20000 in
theorem ggX3_resize_X3_sizeOf : GoodIn wsX3_resize wsX3_sizeOf := goodIn_r _ [11, 1, 14, 15, 16, 17, 18, 19, 20] (by decide +kernel) (by decide +kernel)
set_option maxRecDepth 20000 in
theorem gX3_resize_X3_sizeOf : GoodIn wsX3_resize (wsV RX3 44 RX3 yX3_sizeOf wsX3_sizeOf) := goodIn_app (goodIn_of _ (by decide +kernel)) ggX3_resize_X3_sizeOf
set_option maxRecDepth 20000 in
theorem ggX3_resize_X5_put : GoodIn wsX3_resize wsX5_put := goodIn_r _ [13] (by decide +kernel) (by decide +kernel)
set_option maxRecDepth 20000 in
theorem gX3_resize_X5_put_n76 : GoodIn wsX3_resize (wsX5_put) := ggX3_resize_X5_put
theorem dX3_resize_0 : decode cX3_resize 0 = .ok (.aload_n 0, 1) := by decide +kernel
theorem dX3_resize_1 : decode cX3_resize 1 = .ok (.getfield 21, 3) := by decide +kernel
theorem dX3_resize_4 : decode cX3_resize 4 = .ok (.iload_n 1, 1) := by decide +kernel
theorem dX3_resize_5 : decode cX3_resize 5 = .ok (.iconst 1, 1) := by decide +kernel
theorem dX3_resize_6 : decode cX3_resize 6 = .ok (.aload_n 0, 1) := by decide +kernel
theorem dX3_resize_7 : decode cX3_resize 7 = .ok (.aload_n 0, 1) := by decide +kernel
theorem dX3_resize_8 : decode cX3_resize 8 = .ok (.getfield 9, 3) := by decide +kernel
theorem dX3_resize_11 : decode cX3_resize 11 = .ok (.iload_n 1, 1) := by decide +kernel
theorem dX3_resize_12 : decode cX3_resize 12 = .ok (.invokestatic 40, 3) := by decide +kernel
theorem dX3_resize_15 : decode cX3_resize 15 = .ok (.invokevirtual 44, 3) := by decide +kernel
theorem dX3_resize_18 : decode cX3_resize 18 = .ok (.iadd, 1) := by decide +kernel
theorem dX3_resize_19 : decode cX3_resize 19 = .ok (.aload_n 0, 1) := by decide +kernel
theorem dX3_resize_20 : decode cX3_resize 20 = .ok (.aload_n 0, 1) := by decide +kernel
theorem dX3_resize_21 : decode cX3_resize 21 = .ok (.getfield 15, 3) := by decide +kernel
theorem dX3_resize_24 : decode cX3_resize 24 = .ok (.iload_n 1, 1) := by decide +kernel
theorem dX3_resize_25 : decode cX3_resize 25 = .ok (.invokestatic 40, 3) := by decide +kernel
theorem dX3_resize_28 : decode cX3_resize 28 = .ok (.invokevirtual 44, 3) := by decide +kernel
theorem dX3_resize_31 : decode cX3_resize 31 = .ok (.iadd, 1) := by decide +kernel
theorem dX3_resize_32 : decode cX3_resize 32 = .ok (.invokestatic 76, 3) := by decide +kernel
theorem dX3_resize_35 : decode cX3_resize 35 = .ok (.return_, 1) := by decide +kernel
set_option maxRecDepth 20000 in
theorem ggX3_resizeUpFrom_X3_resize : GoodIn wsX3_resizeUpFrom wsX3_resize := goodIn_r _ [5, 6, 7, 8, 9, 10, 11, 12, 13, 14, 4, 15, 16, 17, 23, 24, 25, 26, 27, 28, 29] (by decide +kernel) (by decide +kernel)
set_option maxRecDepth 20000 in
theorem gX3_resizeUpFrom_X3_resize : GoodIn wsX3_resizeUpFrom (wsV RX3 91 RX3 yX3_resize wsX3_resize) := goodIn_app (goodIn_of _ (by decide +kernel)) ggX3_resizeUpFrom_X3_resize
set_option maxRecDepth 20000 in
theorem ggX3_resizeUpFrom_X3_upOf : GoodIn wsX3_resizeUpFrom wsX3_upOf := goodIn_r _ [21, 22, 9, 10, 11, 23, 24, 25, 26, 27, 28, 29] (by decide +kernel) (by decide +kernel)
set_option maxRecDepth 20000 in
theorem gX3_resizeUpFrom_X3_upOf : GoodIn wsX3_resizeUpFrom (wsV RX3 52 RX3 yX3_upOf wsX3_upOf) := goodIn_app (goodIn_of _ (by decide +kernel)) ggX3_resizeUpFrom_X3_upOf
theorem dX3_resizeUpFrom_0 : decode cX3_resizeUpFrom 0 = .ok (.iload_n 1, 1) := by decide +kernel
theorem dX3_resizeUpFrom_1 : decode cX3_resizeUpFrom 1 = .ok (.istore_n 2, 1) := by decide +kernel
theorem dX3_resizeUpFrom_2 : decode cX3_resizeUpFrom 2 = .ok (.iconst 0, 1) := by decide +kernel
theorem dX3_resizeUpFrom_3 : decode cX3_resizeUpFrom 3 = .ok (.istore_n 3, 1) := by decide +kernel
theorem dX3_resizeUpFrom_4 : decode cX3_resizeUpFrom 4 = .ok (.iload_n 3, 1) := by decide +kernel
theorem dX3_resizeUpFrom_5 : decode cX3_resizeUpFrom 5 = .ok (.bipush 64, 2) := by decide +kernel
theorem dX3_resizeUpFrom_7 : decode cX3_resizeUpFrom 7 = .ok (.if_icmp .ge 25, 3) := by decide +kernel
theorem dX3_resizeUpFrom_10 : decode cX3_resizeUpFrom 10 = .ok (.iload_n 2, 1) := by decide +kernel
theorem dX3_resizeUpFrom_11 : decode cX3_resizeUpFrom 11 = .ok (.iconst (-1), 1) := by decide +kernel
theorem dX3_resizeUpFrom_12 : decode cX3_resizeUpFrom 12 = .ok (.if_icmp .eq 20, 3) := by decide +kernel
theorem dX3_resizeUpFrom_15 : decode cX3_resizeUpFrom 15 = .ok (.aload_n 0, 1) := by decide +kernel
theorem dX3_resizeUpFrom_16 : decode cX3_resizeUpFrom 16 = .ok (.iload_n 2, 1) := by decide +kernel
theorem dX3_resizeUpFrom_17 : decode cX3_resizeUpFrom 17 = .ok (.invokevirtual 91, 3) := by decide +kernel
theorem dX3_resizeUpFrom_20 : decode cX3_resizeUpFrom 20 = .ok (.aload_n 0, 1) := by decide +kernel
theorem dX3_resizeUpFrom_21 : decode cX3_resizeUpFrom 21 = .ok (.iload_n 2, 1) := by decide +kernel
theorem dX3_resizeUpFrom_22 : decode cX3_resizeUpFrom 22 = .ok (.invokevirtual 52, 3) := by decide +kernel
theorem dX3_resizeUpFrom_25 : decode cX3_resizeUpFrom 25 = .ok (.istore_n 2, 1) := by decide +kernel
theorem dX3_resizeUpFrom_26 : decode cX3_resizeUpFrom 26 = .ok (.iinc 3 1, 3) := by decide +kernel
theorem dX3_resizeUpFrom_29 : decode cX3_resizeUpFrom 29 = .ok (.goto (-25), 3) := by decide +kernel
theorem dX3_resizeUpFrom_32 : decode cX3_resizeUpFrom 32 = .ok (.return_, 1) := by decide +kernel
set_option maxRecDepth 20000 in
theorem ggX3_turn_X3_upOf : GoodIn wsX3_turn wsX3_upOf := goodIn_r _ [6, 7, 8, 9, 10, 45, 46, 47, 48, 49, 50, 51] (by decide +kernel) (by decide +kernel)
set_option maxRecDepth 20000 in
theorem gX3_turn_X3_upOf : GoodIn wsX3_turn (wsV RX3 52 RX3 yX3_upOf wsX3_upOf) := goodIn_app (goodIn_of _ (by decide +kernel)) ggX3_turn_X3_upOf
set_option maxRecDepth 20000 in
theorem ggX3_turn_X3_rightOf : GoodIn wsX3_turn wsX3_rightOf := goodIn_r _ [14, 15, 8, 9, 10, 45, 46, 47, 48, 49, 50, 51] (by decide +kernel) (by decide +kernel)
set_option maxRecDepth 20000 in
theorem gX3_turn_X3_rightOf : GoodIn wsX3_turn (wsV RX3 67 RX3 yX3_rightOf wsX3_rightOf) := goodIn_app (goodIn_of _ (by decide +kernel)) ggX3_turn_X3_rightOf
set_option maxRecDepth 20000 in
theorem ggX3_turn_X3_hangLeft : GoodIn wsX3_turn wsX3_hangLeft := goodIn_r _ [19, 20, 7, 21, 9, 22, 45, 46, 47, 48, 49, 50, 51] (by decide +kernel) (by decide +kernel)
set_option maxRecDepth 20000 in
theorem gX3_turn_X3_hangLeft : GoodIn wsX3_turn (wsV RX3 94 RX3 yX3_hangLeft wsX3_hangLeft) := goodIn_app (goodIn_of _ (by decide +kernel)) ggX3_turn_X3_hangLeft
set_option maxRecDepth 20000 in
theorem ggX3_turn_X3_hangRight : GoodIn wsX3_turn wsX3_hangRight := goodIn_r _ [26, 15, 7, 21, 9, 22, 45, 46, 47, 48, 49, 50, 51] (by decide +kernel) (by decide +kernel)
set_option maxRecDepth 20000 in
theorem gX3_turn_X3_hangRight : GoodIn wsX3_turn (wsV RX3 97 RX3 yX3_hangRight wsX3_hangRight) := goodIn_app (goodIn_of _ (by decide +kernel)) ggX3_turn_X3_hangRight
set_option maxRecDepth 20000 in
theorem ggX3_turn_X3_leftOf : GoodIn wsX3_turn wsX3_leftOf := goodIn_r _ [30, 20, 8, 9, 10, 45, 46, 47, 48, 49, 50, 51] (by decide +kernel) (by decide +kernel)
set_option maxRecDepth 20000 in
theorem gX3_turn_X3_leftOf : GoodIn wsX3_turn (wsV RX3 64 RX3 yX3_leftOf wsX3_leftOf) := goodIn_app (goodIn_of _ (by decide +kernel)) ggX3_turn_X3_leftOf
set_option maxRecDepth 20000 in
theorem ggX3_turn_X3_hang : GoodIn wsX3_turn wsX3_hang := goodIn_r _ [34, 7, 35, 20, 15, 21, 9, 22, 45, 46, 47, 48, 49, 50, 51] (by decide +kernel) (by decide +kernel)
set_option maxRecDepth 20000 in
theorem gX3_turn_X3_hang : GoodIn wsX3_turn (wsV RX3 80 RX3 yX3_hang wsX3_hang) := goodIn_app (goodIn_of _ (by decide +kernel)) ggX3_turn_X3_hang
set_option maxRecDepth 20000 in
theorem ggX3_turn_X3_resize : GoodIn wsX3_turn wsX3_resize := goodIn_r _ [39, 40, 20, 15, 8, 9, 10, 41, 42, 43, 5, 44, 21, 22, 45, 46, 47, 48, 49, 50, 51] (by decide +kernel) (by decide +kernel)
set_option maxRecDepth 20000 in
theorem gX3_turn_X3_resize : GoodIn wsX3_turn (wsV RX3 91 RX3 yX3_resize wsX3_resize) := goodIn_app (goodIn_of _ (by decide +kernel)) ggX3_turn_X3_resize
theorem dX3_turn_0 : decode cX3_turn 0 = .ok (.aload_n 0, 1) := by decide +kernel
theorem dX3_turn_1 : decode cX3_turn 1 = .ok (.iload_n 1, 1) := by decide +kernel
theorem dX3_turn_2 : decode cX3_turn 2 = .ok (.invokevirtual 52, 3) := by decide +kernel
theorem dX3_turn_5 : decode cX3_turn 5 = .ok (.istore_n 2, 1) := by decide +kernel
theorem dX3_turn_6 : decode cX3_turn 6 = .ok (.iload_n 2, 1) := by decide +kernel
theorem dX3_turn_7 : decode cX3_turn 7 = .ok (.iconst (-1), 1) := by decide +kernel
theorem dX3_turn_8 : decode cX3_turn 8 = .ok (.if_icmp .ne 4, 3) := by decide +kernel
theorem dX3_turn_11 : decode cX3_turn 11 = .ok (.return_, 1) := by decide +kernel
theorem dX3_turn_12 : decode cX3_turn 12 = .ok (.aload_n 0, 1) := by decide +kernel
theorem dX3_turn_13 : decode cX3_turn 13 = .ok (.iload_n 2, 1) := by decide +kernel
theorem dX3_turn_14 : decode cX3_turn 14 = .ok (.invokevirtual 52, 3) := by decide +kernel
theorem dX3_turn_17 : decode cX3_turn 17 = .ok (.istore_n 3, 1) := by decide +kernel
theorem dX3_turn_18 : decode cX3_turn 18 = .ok (.iload_n 1, 1) := by decide +kernel
theorem dX3_turn_19 : decode cX3_turn 19 = .ok (.iload_n 2, 1) := by decide +kernel
theorem dX3_turn_20 : decode cX3_turn 20 = .ok (.if_icmp .ge 22, 3) := by decide +kernel
theorem dX3_turn_23 : decode cX3_turn 23 = .ok (.aload_n 0, 1) := by decide +kernel
theorem dX3_turn_24 : decode cX3_turn 24 = .ok (.aload_n 0, 1) := by decide +kernel
theorem dX3_turn_25 : decode cX3_turn 25 = .ok (.iload_n 1, 1) := by decide +kernel
theorem dX3_turn_26 : decode cX3_turn 26 = .ok (.invokevirtual 67, 3) := by decide +kernel
theorem dX3_turn_29 : decode cX3_turn 29 = .ok (.iload_n 2, 1) := by decide +kernel
theorem dX3_turn_30 : decode cX3_turn 30 = .ok (.invokevirtual 94, 3) := by decide +kernel
theorem dX3_turn_33 : decode cX3_turn 33 = .ok (.aload_n 0, 1) := by decide +kernel
theorem dX3_turn_34 : decode cX3_turn 34 = .ok (.iload_n 2, 1) := by decide +kernel
theorem dX3_turn_35 : decode cX3_turn 35 = .ok (.iload_n 1, 1) := by decide +kernel
theorem dX3_turn_36 : decode cX3_turn 36 = .ok (.invokevirtual 97, 3) := by decide +kernel
theorem dX3_turn_39 : decode cX3_turn 39 = .ok (.goto 19, 3) := by decide +kernel
theorem dX3_turn_42 : decode cX3_turn 42 = .ok (.aload_n 0, 1) := by decide +kernel
theorem dX3_turn_43 : decode cX3_turn 43 = .ok (.aload_n 0, 1) := by decide +kernel
theorem dX3_turn_44 : decode cX3_turn 44 = .ok (.iload_n 1, 1) := by decide +kernel
theorem dX3_turn_45 : decode cX3_turn 45 = .ok (.invokevirtual 64, 3) := by decide +kernel
theorem dX3_turn_48 : decode cX3_turn 48 = .ok (.iload_n 2, 1) := by decide +kernel
theorem dX3_turn_49 : decode cX3_turn 49 = .ok (.invokevirtual 97, 3) := by decide +kernel
theorem dX3_turn_52 : decode cX3_turn 52 = .ok (.aload_n 0, 1) := by decide +kernel
theorem dX3_turn_53 : decode cX3_turn 53 = .ok (.iload_n 2, 1) := by decide +kernel
theorem dX3_turn_54 : decode cX3_turn 54 = .ok (.iload_n 1, 1) := by decide +kernel
theorem dX3_turn_55 : decode cX3_turn 55 = .ok (.invokevirtual 94, 3) := by decide +kernel
theorem dX3_turn_58 : decode cX3_turn 58 = .ok (.aload_n 0, 1) := by decide +kernel
theorem dX3_turn_59 : decode cX3_turn 59 = .ok (.iload_n 1, 1) := by decide +kernel
theorem dX3_turn_60 : decode cX3_turn 60 = .ok (.iload_n 3, 1) := by decide +kernel
theorem dX3_turn_61 : decode cX3_turn 61 = .ok (.invokevirtual 80, 3) := by decide +kernel
theorem dX3_turn_64 : decode cX3_turn 64 = .ok (.aload_n 0, 1) := by decide +kernel
theorem dX3_turn_65 : decode cX3_turn 65 = .ok (.iload_n 2, 1) := by decide +kernel
theorem dX3_turn_66 : decode cX3_turn 66 = .ok (.invokevirtual 91, 3) := by decide +kernel
theorem dX3_turn_69 : decode cX3_turn 69 = .ok (.aload_n 0, 1) := by decide +kernel
theorem dX3_turn_70 : decode cX3_turn 70 = .ok (.iload_n 1, 1) := by decide +kernel
theorem dX3_turn_71 : decode cX3_turn 71 = .ok (.invokevirtual 91, 3) := by decide +kernel
theorem dX3_turn_74 : decode cX3_turn 74 = .ok (.aload_n 0, 1) := by decide +kernel
theorem dX3_turn_75 : decode cX3_turn 75 = .ok (.dup, 1) := by decide +kernel
theorem dX3_turn_76 : decode cX3_turn 76 = .ok (.getfield 37, 3) := by decide +kernel
theorem dX3_turn_79 : decode cX3_turn 79 = .ok (.iconst 1, 1) := by decide +kernel
theorem dX3_turn_80 : decode cX3_turn 80 = .ok (.iadd, 1) := by decide +kernel
theorem dX3_turn_81 : decode cX3_turn 81 = .ok (.putfield 37, 3) := by decide +kernel
theorem dX3_turn_84 : decode cX3_turn 84 = .ok (.return_, 1) := by decide +kernel
set_option maxRecDepth 20000 in
theorem ggX3_makeEven_X3_upOf : GoodIn wsX3_makeEven wsX3_upOf := goodIn_r _ [6, 7, 8, 9, 10, 60, 61, 62, 63, 64, 65, 66] (by decide +kernel) (by decide +kernel)
set_option maxRecDepth 20000 in
theorem gX3_makeEven_X3_upOf : GoodIn wsX3_makeEven (wsV RX3 52 RX3 yX3_upOf wsX3_upOf) := goodIn_app (goodIn_of _ (by decide +kernel)) ggX3_makeEven_X3_upOf
set_option maxRecDepth 20000 in
theorem ggX3_makeEven_X3_leastUnder : GoodIn wsX3_makeEven wsX3_leastUnder := goodIn_r _ [14, 15, 16, 17, 5, 18, 19, 8, 9, 10, 60, 61, 62, 63, 64, 65, 66] (by decide +kernel) (by decide +kernel)
set_option maxRecDepth 20000 in
theorem gX3_makeEven_X3_leastUnder : GoodIn wsX3_makeEven (wsV RX3 73 RX3 yX3_leastUnder wsX3_leastUnder) := goodIn_app (goodIn_of _ (by decide +kernel)) ggX3_makeEven_X3_leastUnder
set_option maxRecDepth 20000 in
theorem ggX3_makeEven_X3_greatestUnder : GoodIn wsX3_makeEven wsX3_greatestUnder := goodIn_r _ [23, 24, 25, 26, 5, 27, 28, 8, 9, 10, 60, 61, 62, 63, 64, 65, 66] (by decide +kernel) (by decide +kernel)
set_option maxRecDepth 20000 in
theorem gX3_makeEven_X3_greatestUnder : GoodIn wsX3_makeEven (wsV RX3 70 RX3 yX3_greatestUnder wsX3_greatestUnder) := goodIn_app (goodIn_of _ (by decide +kernel)) ggX3_makeEven_X3_greatestUnder
set_option maxRecDepth 20000 in
theorem ggX3_makeEven_X3_holds : GoodIn wsX3_makeEven wsX3_holds := goodIn_r _ [32, 33, 34, 35, 5, 36, 37, 60, 61, 62, 63, 64, 65, 66] (by decide +kernel) (by decide +kernel)
set_option maxRecDepth 20000 in
theorem gX3_makeEven_X3_holds : GoodIn wsX3_makeEven (wsV RX3 48 RX3 yX3_holds wsX3_holds) := goodIn_app (goodIn_of _ (by decide +kernel)) ggX3_makeEven_X3_holds
set_option maxRecDepth 20000 in
theorem ggX3_makeEven_X5_put : GoodIn wsX3_makeEven wsX5_put := goodIn_r _ [39] (by decide +kernel) (by decide +kernel)
set_option maxRecDepth 20000 in
theorem gX3_makeEven_X5_put_n76 : GoodIn wsX3_makeEven (wsX5_put) := ggX3_makeEven_X5_put
set_option maxRecDepth 20000 in
theorem ggX3_makeEven_X3_evenOf : GoodIn wsX3_makeEven wsX3_evenOf := goodIn_r _ [42, 1, 8, 9, 10, 40, 41, 5, 43, 44, 45, 46, 19, 7, 38, 39, 47, 48, 49, 50, 28, 51, 52, 53, 54, 37, 33, 34, 35, 36, 60, 61, 62, 63, 64, 65, 66] (by decide +kernel) (by decide +kernel)
set_option maxRecDepth 20000 in
theorem gX3_makeEven_X3_evenOf : GoodIn wsX3_makeEven (va_wsS RX3 100 yX3_evenOf wsX3_evenOf) := goodIn_app (goodIn_of _ (by decide +kernel)) ggX3_makeEven_X3_evenOf
set_option maxRecDepth 20000 in
theorem ggX3_makeEven_X3_hang : GoodIn wsX3_makeEven wsX3_hang := goodIn_r _ [58, 7, 59, 19, 28, 38, 9, 39, 60, 61, 62, 63, 64, 65, 66] (by decide +kernel) (by decide +kernel)
set_option maxRecDepth 20000 in
theorem gX3_makeEven_X3_hang : GoodIn wsX3_makeEven (wsV RX3 80 RX3 yX3_hang wsX3_hang) := goodIn_app (goodIn_of _ (by decide +kernel)) ggX3_makeEven_X3_hang
theorem dX3_makeEven_0 : decode cX3_makeEven 0 = .ok (.iload_n 1, 1) := by decide +kernel
theorem dX3_makeEven_1 : decode cX3_makeEven 1 = .ok (.iconst (-1), 1) := by decide +kernel
theorem dX3_makeEven_2 : decode cX3_makeEven 2 = .ok (.if_icmp .ne 4, 3) := by decide +kernel
theorem dX3_makeEven_5 : decode cX3_makeEven 5 = .ok (.return_, 1) := by decide +kernel
theorem dX3_makeEven_6 : decode cX3_makeEven 6 = .ok (.aload_n 0, 1) := by decide +kernel
theorem dX3_makeEven_7 : decode cX3_makeEven 7 = .ok (.iload_n 1, 1) := by decide +kernel
theorem dX3_makeEven_8 : decode cX3_makeEven 8 = .ok (.invokevirtual 52, 3) := by decide +kernel
theorem dX3_makeEven_11 : decode cX3_makeEven 11 = .ok (.istore_n 2, 1) := by decide +kernel
theorem dX3_makeEven_12 : decode cX3_makeEven 12 = .ok (.aload_n 0, 1) := by decide +kernel
theorem dX3_makeEven_13 : decode cX3_makeEven 13 = .ok (.iload_n 1, 1) := by decide +kernel
theorem dX3_makeEven_14 : decode cX3_makeEven 14 = .ok (.invokevirtual 73, 3) := by decide +kernel
theorem dX3_makeEven_17 : decode cX3_makeEven 17 = .ok (.istore_n 3, 1) := by decide +kernel
theorem dX3_makeEven_18 : decode cX3_makeEven 18 = .ok (.aload_n 0, 1) := by decide +kernel
theorem dX3_makeEven_19 : decode cX3_makeEven 19 = .ok (.iload_n 1, 1) := by decide +kernel
theorem dX3_makeEven_20 : decode cX3_makeEven 20 = .ok (.invokevirtual 70, 3) := by decide +kernel
theorem dX3_makeEven_23 : decode cX3_makeEven 23 = .ok (.istore 4, 2) := by decide +kernel
theorem dX3_makeEven_25 : decode cX3_makeEven 25 = .ok (.iconst 0, 1) := by decide +kernel
theorem dX3_makeEven_26 : decode cX3_makeEven 26 = .ok (.istore 5, 2) := by decide +kernel
theorem dX3_makeEven_28 : decode cX3_makeEven 28 = .ok (.iconst 0, 1) := by decide +kernel
theorem dX3_makeEven_29 : decode cX3_makeEven 29 = .ok (.istore 6, 2) := by decide +kernel
theorem dX3_makeEven_31 : decode cX3_makeEven 31 = .ok (.iload 6, 2) := by decide +kernel
theorem dX3_makeEven_33 : decode cX3_makeEven 33 = .ok (.bipush 64, 2) := by decide +kernel
theorem dX3_makeEven_35 : decode cX3_makeEven 35 = .ok (.if_icmp .ge 45, 3) := by decide +kernel
theorem dX3_makeEven_38 : decode cX3_makeEven 38 = .ok (.aload_n 0, 1) := by decide +kernel
theorem dX3_makeEven_39 : decode cX3_makeEven 39 = .ok (.iload 6, 2) := by decide +kernel
theorem dX3_makeEven_41 : decode cX3_makeEven 41 = .ok (.invokevirtual 48, 3) := by decide +kernel
theorem dX3_makeEven_44 : decode cX3_makeEven 44 = .ok (.ifCond .eq 30, 3) := by decide +kernel
theorem dX3_makeEven_47 : decode cX3_makeEven 47 = .ok (.iload 6, 2) := by decide +kernel
theorem dX3_makeEven_49 : decode cX3_makeEven 49 = .ok (.iload_n 3, 1) := by decide +kernel
theorem dX3_makeEven_50 : decode cX3_makeEven 50 = .ok (.if_icmp .lt 24, 3) := by decide +kernel
theorem dX3_makeEven_53 : decode cX3_makeEven 53 = .ok (.iload 6, 2) := by decide +kernel
theorem dX3_makeEven_55 : decode cX3_makeEven 55 = .ok (.iload 4, 2) := by decide +kernel
theorem dX3_makeEven_57 : decode cX3_makeEven 57 = .ok (.if_icmp .gt 17, 3) := by decide +kernel
theorem dX3_makeEven_60 : decode cX3_makeEven 60 = .ok (.aload_n 0, 1) := by decide +kernel
theorem dX3_makeEven_61 : decode cX3_makeEven 61 = .ok (.getfield 24, 3) := by decide +kernel
theorem dX3_makeEven_64 : decode cX3_makeEven 64 = .ok (.iload 5, 2) := by decide +kernel
theorem dX3_makeEven_66 : decode cX3_makeEven 66 = .ok (.iload 6, 2) := by decide +kernel
theorem dX3_makeEven_68 : decode cX3_makeEven 68 = .ok (.invokestatic 76, 3) := by decide +kernel
theorem dX3_makeEven_71 : decode cX3_makeEven 71 = .ok (.iinc 5 1, 3) := by decide +kernel
theorem dX3_makeEven_74 : decode cX3_makeEven 74 = .ok (.iinc 6 1, 3) := by decide +kernel
theorem dX3_makeEven_77 : decode cX3_makeEven 77 = .ok (.goto (-46), 3) := by decide +kernel
theorem dX3_makeEven_80 : decode cX3_makeEven 80 = .ok (.aload_n 0, 1) := by decide +kernel
theorem dX3_makeEven_81 : decode cX3_makeEven 81 = .ok (.aload_n 0, 1) := by decide +kernel
theorem dX3_makeEven_82 : decode cX3_makeEven 82 = .ok (.iconst 0, 1) := by decide +kernel
theorem dX3_makeEven_83 : decode cX3_makeEven 83 = .ok (.iload 5, 2) := by decide +kernel
theorem dX3_makeEven_85 : decode cX3_makeEven 85 = .ok (.iconst 1, 1) := by decide +kernel
theorem dX3_makeEven_86 : decode cX3_makeEven 86 = .ok (.isub, 1) := by decide +kernel
theorem dX3_makeEven_87 : decode cX3_makeEven 87 = .ok (.iconst 0, 1) := by decide +kernel
theorem dX3_makeEven_88 : decode cX3_makeEven 88 = .ok (.invokestatic 100, 3) := by decide +kernel
theorem dX3_makeEven_91 : decode cX3_makeEven 91 = .ok (.iload_n 2, 1) := by decide +kernel
theorem dX3_makeEven_92 : decode cX3_makeEven 92 = .ok (.invokevirtual 80, 3) := by decide +kernel
theorem dX3_makeEven_95 : decode cX3_makeEven 95 = .ok (.return_, 1) := by decide +kernel
set_option maxRecDepth 20000 in
theorem ggX3_evenOf_X5_at : GoodIn wsX3_evenOf wsX5_at := goodIn_r _ [4] (by decide +kernel) (by decide +kernel)
set_option maxRecDepth 20000 in
theorem gX3_evenOf_X5_at_n40 : GoodIn wsX3_evenOf (wsX5_at) := ggX3_evenOf_X5_at
set_option maxRecDepth 20000 in
theorem ggX3_evenOf_X3_evenOf : GoodIn wsX3_evenOf wsX3_evenOf := goodIn_r _ [0, 1, 2, 3, 4, 5, 6, 7, 8, 9, 10, 11, 12, 13, 14, 15, 16, 17, 18, 19, 20, 21, 22, 23, 24, 25, 26, 27, 28, 29, 30, 31, 32, 33, 34, 35, 36] (by decide +kernel) (by decide +kernel)
set_option maxRecDepth 20000 in
theorem gX3_evenOf_X3_evenOf : GoodIn wsX3_evenOf (va_wsS RX3 100 yX3_evenOf wsX3_evenOf) := goodIn_app (goodIn_of _ (by decide +kernel)) ggX3_evenOf_X3_evenOf
set_option maxRecDepth 20000 in
theorem ggX3_evenOf_X3_hangLeft : GoodIn wsX3_evenOf wsX3_hangLeft := goodIn_r _ [11, 12, 13, 14, 3, 15, 30, 31, 32, 33, 34, 35, 36] (by decide +kernel) (by decide +kernel)
set_option maxRecDepth 20000 in
theorem gX3_evenOf_X3_hangLeft : GoodIn wsX3_evenOf (wsV RX3 94 RX3 yX3_hangLeft wsX3_hangLeft) := goodIn_app (goodIn_of _ (by decide +kernel)) ggX3_evenOf_X3_hangLeft
set_option maxRecDepth 20000 in
theorem ggX3_evenOf_X3_hangRight : GoodIn wsX3_evenOf wsX3_hangRight := goodIn_r _ [19, 20, 13, 14, 3, 15, 30, 31, 32, 33, 34, 35, 36] (by decide +kernel) (by decide +kernel)
set_option maxRecDepth 20000 in
theorem gX3_evenOf_X3_hangRight : GoodIn wsX3_evenOf (wsV RX3 97 RX3 yX3_hangRight wsX3_hangRight) := goodIn_app (goodIn_of _ (by decide +kernel)) ggX3_evenOf_X3_hangRight
set_option maxRecDepth 20000 in
theorem ggX3_evenOf_X3_resize : GoodIn wsX3_evenOf wsX3_resize := goodIn_r _ [24, 25, 12, 20, 2, 3, 4, 26, 27, 28, 7, 29, 14, 15, 30, 31, 32, 33, 34, 35, 36] (by decide +kernel) (by decide +kernel)
set_option maxRecDepth 20000 in
theorem gX3_evenOf_X3_resize : GoodIn wsX3_evenOf (wsV RX3 91 RX3 yX3_resize wsX3_resize) := goodIn_app (goodIn_of _ (by decide +kernel)) ggX3_evenOf_X3_resize
theorem dX3_evenOf_0 : decode cX3_evenOf 0 = .ok (.iload_n 1, 1) := by decide +kernel
theorem dX3_evenOf_1 : decode cX3_evenOf 1 = .ok (.iload_n 2, 1) := by decide +kernel
theorem dX3_evenOf_2 : decode cX3_evenOf 2 = .ok (.if_icmp .gt 9, 3) := by decide +kernel
theorem dX3_evenOf_5 : decode cX3_evenOf 5 = .ok (.iload_n 3, 1) := by decide +kernel
theorem dX3_evenOf_6 : decode cX3_evenOf 6 = .ok (.bipush 6, 2) := by decide +kernel
theorem dX3_evenOf_8 : decode cX3_evenOf 8 = .ok (.if_icmp .le 5, 3) := by decide +kernel
theorem dX3_evenOf_11 : decode cX3_evenOf 11 = .ok (.iconst (-1), 1) := by decide +kernel
theorem dX3_evenOf_12 : decode cX3_evenOf 12 = .ok (.ireturn, 1) := by decide +kernel
theorem dX3_evenOf_13 : decode cX3_evenOf 13 = .ok (.iload_n 1, 1) := by decide +kernel
theorem dX3_evenOf_14 : decode cX3_evenOf 14 = .ok (.iload_n 2, 1) := by decide +kernel
theorem dX3_evenOf_15 : decode cX3_evenOf 15 = .ok (.iadd, 1) := by decide +kernel
theorem dX3_evenOf_16 : decode cX3_evenOf 16 = .ok (.iconst 2, 1) := by decide +kernel
theorem dX3_evenOf_17 : decode cX3_evenOf 17 = .ok (.idiv, 1) := by decide +kernel
theorem dX3_evenOf_18 : decode cX3_evenOf 18 = .ok (.istore 4, 2) := by decide +kernel
theorem dX3_evenOf_20 : decode cX3_evenOf 20 = .ok (.aload_n 0, 1) := by decide +kernel
theorem dX3_evenOf_21 : decode cX3_evenOf 21 = .ok (.getfield 24, 3) := by decide +kernel
theorem dX3_evenOf_24 : decode cX3_evenOf 24 = .ok (.iload 4, 2) := by decide +kernel
theorem dX3_evenOf_26 : decode cX3_evenOf 26 = .ok (.invokestatic 40, 3) := by decide +kernel
theorem dX3_evenOf_29 : decode cX3_evenOf 29 = .ok (.istore 5, 2) := by decide +kernel
theorem dX3_evenOf_31 : decode cX3_evenOf 31 = .ok (.aload_n 0, 1) := by decide +kernel
theorem dX3_evenOf_32 : decode cX3_evenOf 32 = .ok (.aload_n 0, 1) := by decide +kernel
theorem dX3_evenOf_33 : decode cX3_evenOf 33 = .ok (.iload_n 1, 1) := by decide +kernel
theorem dX3_evenOf_34 : decode cX3_evenOf 34 = .ok (.iload 4, 2) := by decide +kernel
theorem dX3_evenOf_36 : decode cX3_evenOf 36 = .ok (.iconst 1, 1) := by decide +kernel
theorem dX3_evenOf_37 : decode cX3_evenOf 37 = .ok (.isub, 1) := by decide +kernel
theorem dX3_evenOf_38 : decode cX3_evenOf 38 = .ok (.iload_n 3, 1) := by decide +kernel
theorem dX3_evenOf_39 : decode cX3_evenOf 39 = .ok (.iconst 1, 1) := by decide +kernel
theorem dX3_evenOf_40 : decode cX3_evenOf 40 = .ok (.iadd, 1) := by decide +kernel
theorem dX3_evenOf_41 : decode cX3_evenOf 41 = .ok (.invokestatic 100, 3) := by decide +kernel
theorem dX3_evenOf_44 : decode cX3_evenOf 44 = .ok (.iload 5, 2) := by decide +kernel
theorem dX3_evenOf_46 : decode cX3_evenOf 46 = .ok (.invokevirtual 94, 3) := by decide +kernel
theorem dX3_evenOf_49 : decode cX3_evenOf 49 = .ok (.aload_n 0, 1) := by decide +kernel
theorem dX3_evenOf_50 : decode cX3_evenOf 50 = .ok (.aload_n 0, 1) := by decide +kernel
theorem dX3_evenOf_51 : decode cX3_evenOf 51 = .ok (.iload 4, 2) := by decide +kernel
theorem dX3_evenOf_53 : decode cX3_evenOf 53 = .ok (.iconst 1, 1) := by decide +kernel
theorem dX3_evenOf_54 : decode cX3_evenOf 54 = .ok (.iadd, 1) := by decide +kernel
theorem dX3_evenOf_55 : decode cX3_evenOf 55 = .ok (.iload_n 2, 1) := by decide +kernel
theorem dX3_evenOf_56 : decode cX3_evenOf 56 = .ok (.iload_n 3, 1) := by decide +kernel
theorem dX3_evenOf_57 : decode cX3_evenOf 57 = .ok (.iconst 1, 1) := by decide +kernel
theorem dX3_evenOf_58 : decode cX3_evenOf 58 = .ok (.iadd, 1) := by decide +kernel
theorem dX3_evenOf_59 : decode cX3_evenOf 59 = .ok (.invokestatic 100, 3) := by decide +kernel
theorem dX3_evenOf_62 : decode cX3_evenOf 62 = .ok (.iload 5, 2) := by decide +kernel
theorem dX3_evenOf_64 : decode cX3_evenOf 64 = .ok (.invokevirtual 97, 3) := by decide +kernel
theorem dX3_evenOf_67 : decode cX3_evenOf 67 = .ok (.aload_n 0, 1) := by decide +kernel
theorem dX3_evenOf_68 : decode cX3_evenOf 68 = .ok (.iload 5, 2) := by decide +kernel
theorem dX3_evenOf_70 : decode cX3_evenOf 70 = .ok (.invokevirtual 91, 3) := by decide +kernel
theorem dX3_evenOf_73 : decode cX3_evenOf 73 = .ok (.iload 5, 2) := by decide +kernel
theorem dX3_evenOf_75 : decode cX3_evenOf 75 = .ok (.ireturn, 1) := by decide +kernel
set_option maxRecDepth 20000 in
theorem ggX3_cutAt_X3_rightOf : GoodIn wsX3_cutAt wsX3_rightOf := goodIn_r _ [8, 2, 9, 10, 11, 56, 57, 58, 59, 60, 61, 62] (by decide +kernel) (by decide +kernel)
set_option maxRecDepth 20000 in
theorem gX3_cutAt_X3_rightOf : GoodIn wsX3_cutAt (wsV RX3 67 RX3 yX3_rightOf wsX3_rightOf) := goodIn_app (goodIn_of _ (by decide +kernel)) ggX3_cutAt_X3_rightOf
set_option maxRecDepth 20000 in
theorem ggX3_cutAt_X3_hang : GoodIn wsX3_cutAt wsX3_hang := goodIn_r _ [15, 16, 1, 3, 2, 17, 10, 18, 56, 57, 58, 59, 60, 61, 62] (by decide +kernel) (by decide +kernel)
set_option maxRecDepth 20000 in
theorem gX3_cutAt_X3_hang : GoodIn wsX3_cutAt (wsV RX3 80 RX3 yX3_hang wsX3_hang) := goodIn_app (goodIn_of _ (by decide +kernel)) ggX3_cutAt_X3_hang
set_option maxRecDepth 20000 in
theorem ggX3_cutAt_X3_leftOf : GoodIn wsX3_cutAt wsX3_leftOf := goodIn_r _ [22, 3, 9, 10, 11, 56, 57, 58, 59, 60, 61, 62] (by decide +kernel) (by decide +kernel)
set_option maxRecDepth 20000 in
theorem gX3_cutAt_X3_leftOf : GoodIn wsX3_cutAt (wsV RX3 64 RX3 yX3_leftOf wsX3_leftOf) := goodIn_app (goodIn_of _ (by decide +kernel)) ggX3_cutAt_X3_leftOf
set_option maxRecDepth 20000 in
theorem ggX3_cutAt_X3_hangLeft : GoodIn wsX3_cutAt wsX3_hangLeft := goodIn_r _ [26, 3, 16, 17, 10, 18, 56, 57, 58, 59, 60, 61, 62] (by decide +kernel) (by decide +kernel)
set_option maxRecDepth 20000 in
theorem gX3_cutAt_X3_hangLeft : GoodIn wsX3_cutAt (wsV RX3 94 RX3 yX3_hangLeft wsX3_hangLeft) := goodIn_app (goodIn_of _ (by decide +kernel)) ggX3_cutAt_X3_hangLeft
set_option maxRecDepth 20000 in
theorem ggX3_cutAt_X5_put : GoodIn wsX3_cutAt wsX5_put := goodIn_r _ [18] (by decide +kernel) (by decide +kernel)
set_option maxRecDepth 20000 in
theorem gX3_cutAt_X5_put_n76 : GoodIn wsX3_cutAt (wsX5_put) := ggX3_cutAt_X5_put
set_option maxRecDepth 20000 in
theorem ggX3_cutAt_X3_resizeUpFrom : GoodIn wsX3_cutAt wsX3_resizeUpFrom := goodIn_r _ [30, 31, 32, 33, 7, 34, 35, 3, 2, 9, 10, 11, 36, 37, 38, 39, 17, 18, 40, 41, 42, 43, 16, 56, 57, 58, 59, 60, 61, 62] (by decide +kernel) (by decide +kernel)
set_option maxRecDepth 20000 in
theorem gX3_cutAt_X3_resizeUpFrom : GoodIn wsX3_cutAt (wsV RX3 84 RX3 yX3_resizeUpFrom wsX3_resizeUpFrom) := goodIn_app (goodIn_of _ (by decide +kernel)) ggX3_cutAt_X3_resizeUpFrom
set_option maxRecDepth 20000 in
theorem ggX3_cutAt_X3_moveKeys : GoodIn wsX3_cutAt wsX3_moveKeys := goodIn_r _ [47, 3, 2, 16, 35, 48, 49, 50, 7, 51, 36, 37, 38, 39, 19, 20, 21, 22, 9, 10, 11, 17, 18, 4, 5, 6, 8, 40, 41, 42, 43, 52, 53, 54, 55, 56, 57, 58, 59, 60, 61, 62] (by decide +kernel) (by decide +kernel)
set_option maxRecDepth 20000 in
theorem gX3_cutAt_X3_moveKeys : GoodIn wsX3_cutAt (wsV RX3 104 RX3 yX3_moveKeys wsX3_moveKeys) := goodIn_app (goodIn_of _ (by decide +kernel)) ggX3_cutAt_X3_moveKeys
theorem dX3_cutAt_0 : decode cX3_cutAt 0 = .ok (.aload_n 0, 1) := by decide +kernel
theorem dX3_cutAt_1 : decode cX3_cutAt 1 = .ok (.getfield 33, 3) := by decide +kernel
theorem dX3_cutAt_4 : decode cX3_cutAt 4 = .ok (.istore_n 3, 1) := by decide +kernel
theorem dX3_cutAt_5 : decode cX3_cutAt 5 = .ok (.iconst (-1), 1) := by decide +kernel
theorem dX3_cutAt_6 : decode cX3_cutAt 6 = .ok (.istore 4, 2) := by decide +kernel
theorem dX3_cutAt_8 : decode cX3_cutAt 8 = .ok (.iconst (-1), 1) := by decide +kernel
theorem dX3_cutAt_9 : decode cX3_cutAt 9 = .ok (.istore 5, 2) := by decide +kernel
theorem dX3_cutAt_11 : decode cX3_cutAt 11 = .ok (.aload_n 0, 1) := by decide +kernel
theorem dX3_cutAt_12 : decode cX3_cutAt 12 = .ok (.iconst (-1), 1) := by decide +kernel
theorem dX3_cutAt_13 : decode cX3_cutAt 13 = .ok (.putfield 33, 3) := by decide +kernel
theorem dX3_cutAt_16 : decode cX3_cutAt 16 = .ok (.iconst 0, 1) := by decide +kernel
theorem dX3_cutAt_17 : decode cX3_cutAt 17 = .ok (.istore 6, 2) := by decide +kernel
theorem dX3_cutAt_19 : decode cX3_cutAt 19 = .ok (.iload 6, 2) := by decide +kernel
theorem dX3_cutAt_21 : decode cX3_cutAt 21 = .ok (.bipush 64, 2) := by decide +kernel
theorem dX3_cutAt_23 : decode cX3_cutAt 23 = .ok (.if_icmp .ge 83, 3) := by decide +kernel
theorem dX3_cutAt_26 : decode cX3_cutAt 26 = .ok (.iload_n 3, 1) := by decide +kernel
theorem dX3_cutAt_27 : decode cX3_cutAt 27 = .ok (.iconst (-1), 1) := by decide +kernel
theorem dX3_cutAt_28 : decode cX3_cutAt 28 = .ok (.if_icmp .eq 78, 3) := by decide +kernel
theorem dX3_cutAt_31 : decode cX3_cutAt 31 = .ok (.iload_n 3, 1) := by decide +kernel
theorem dX3_cutAt_32 : decode cX3_cutAt 32 = .ok (.istore 7, 2) := by decide +kernel
theorem dX3_cutAt_34 : decode cX3_cutAt 34 = .ok (.iload 7, 2) := by decide +kernel
theorem dX3_cutAt_36 : decode cX3_cutAt 36 = .ok (.iload_n 1, 1) := by decide +kernel
theorem dX3_cutAt_37 : decode cX3_cutAt 37 = .ok (.if_icmp .ge 25, 3) := by decide +kernel
theorem dX3_cutAt_40 : decode cX3_cutAt 40 = .ok (.aload_n 0, 1) := by decide +kernel
theorem dX3_cutAt_41 : decode cX3_cutAt 41 = .ok (.iload 7, 2) := by decide +kernel
theorem dX3_cutAt_43 : decode cX3_cutAt 43 = .ok (.invokevirtual 67, 3) := by decide +kernel
theorem dX3_cutAt_46 : decode cX3_cutAt 46 = .ok (.istore_n 3, 1) := by decide +kernel
theorem dX3_cutAt_47 : decode cX3_cutAt 47 = .ok (.aload_n 0, 1) := by decide +kernel
theorem dX3_cutAt_48 : decode cX3_cutAt 48 = .ok (.iload 7, 2) := by decide +kernel
theorem dX3_cutAt_50 : decode cX3_cutAt 50 = .ok (.iload 4, 2) := by decide +kernel
theorem dX3_cutAt_52 : decode cX3_cutAt 52 = .ok (.invokevirtual 80, 3) := by decide +kernel
theorem dX3_cutAt_55 : decode cX3_cutAt 55 = .ok (.iload 7, 2) := by decide +kernel
theorem dX3_cutAt_57 : decode cX3_cutAt 57 = .ok (.istore 4, 2) := by decide +kernel
theorem dX3_cutAt_59 : decode cX3_cutAt 59 = .ok (.goto 41, 3) := by decide +kernel
theorem dX3_cutAt_62 : decode cX3_cutAt 62 = .ok (.aload_n 0, 1) := by decide +kernel
theorem dX3_cutAt_63 : decode cX3_cutAt 63 = .ok (.iload 7, 2) := by decide +kernel
theorem dX3_cutAt_65 : decode cX3_cutAt 65 = .ok (.invokevirtual 64, 3) := by decide +kernel
theorem dX3_cutAt_68 : decode cX3_cutAt 68 = .ok (.istore_n 3, 1) := by decide +kernel
theorem dX3_cutAt_69 : decode cX3_cutAt 69 = .ok (.aload_n 2, 1) := by decide +kernel
theorem dX3_cutAt_70 : decode cX3_cutAt 70 = .ok (.iload 5, 2) := by decide +kernel
theorem dX3_cutAt_72 : decode cX3_cutAt 72 = .ok (.iconst (-1), 1) := by decide +kernel
theorem dX3_cutAt_73 : decode cX3_cutAt 73 = .ok (.if_icmp .ne 8, 3) := by decide +kernel
theorem dX3_cutAt_76 : decode cX3_cutAt 76 = .ok (.iload 7, 2) := by decide +kernel
theorem dX3_cutAt_78 : decode cX3_cutAt 78 = .ok (.goto 7, 3) := by decide +kernel
theorem dX3_cutAt_81 : decode cX3_cutAt 81 = .ok (.aload_n 2, 1) := by decide +kernel
theorem dX3_cutAt_82 : decode cX3_cutAt 82 = .ok (.getfield 33, 3) := by decide +kernel
theorem dX3_cutAt_85 : decode cX3_cutAt 85 = .ok (.putfield 33, 3) := by decide +kernel
theorem dX3_cutAt_88 : decode cX3_cutAt 88 = .ok (.aload_n 0, 1) := by decide +kernel
theorem dX3_cutAt_89 : decode cX3_cutAt 89 = .ok (.iload 7, 2) := by decide +kernel
theorem dX3_cutAt_91 : decode cX3_cutAt 91 = .ok (.iload 5, 2) := by decide +kernel
theorem dX3_cutAt_93 : decode cX3_cutAt 93 = .ok (.invokevirtual 94, 3) := by decide +kernel
theorem dX3_cutAt_96 : decode cX3_cutAt 96 = .ok (.iload 7, 2) := by decide +kernel
theorem dX3_cutAt_98 : decode cX3_cutAt 98 = .ok (.istore 5, 2) := by decide +kernel
theorem dX3_cutAt_100 : decode cX3_cutAt 100 = .ok (.iinc 6 1, 3) := by decide +kernel
theorem dX3_cutAt_103 : decode cX3_cutAt 103 = .ok (.goto (-84), 3) := by decide +kernel
theorem dX3_cutAt_106 : decode cX3_cutAt 106 = .ok (.aload_n 0, 1) := by decide +kernel
theorem dX3_cutAt_107 : decode cX3_cutAt 107 = .ok (.getfield 15, 3) := by decide +kernel
theorem dX3_cutAt_110 : decode cX3_cutAt 110 = .ok (.iload 4, 2) := by decide +kernel
theorem dX3_cutAt_112 : decode cX3_cutAt 112 = .ok (.iconst (-1), 1) := by decide +kernel
theorem dX3_cutAt_113 : decode cX3_cutAt 113 = .ok (.invokestatic 76, 3) := by decide +kernel
theorem dX3_cutAt_116 : decode cX3_cutAt 116 = .ok (.aload_n 0, 1) := by decide +kernel
theorem dX3_cutAt_117 : decode cX3_cutAt 117 = .ok (.getfield 9, 3) := by decide +kernel
theorem dX3_cutAt_120 : decode cX3_cutAt 120 = .ok (.iload 5, 2) := by decide +kernel
theorem dX3_cutAt_122 : decode cX3_cutAt 122 = .ok (.iconst (-1), 1) := by decide +kernel
theorem dX3_cutAt_123 : decode cX3_cutAt 123 = .ok (.invokestatic 76, 3) := by decide +kernel
theorem dX3_cutAt_126 : decode cX3_cutAt 126 = .ok (.aload_n 0, 1) := by decide +kernel
theorem dX3_cutAt_127 : decode cX3_cutAt 127 = .ok (.iload 4, 2) := by decide +kernel
theorem dX3_cutAt_129 : decode cX3_cutAt 129 = .ok (.invokevirtual 84, 3) := by decide +kernel
theorem dX3_cutAt_132 : decode cX3_cutAt 132 = .ok (.aload_n 0, 1) := by decide +kernel
theorem dX3_cutAt_133 : decode cX3_cutAt 133 = .ok (.iload 5, 2) := by decide +kernel
theorem dX3_cutAt_135 : decode cX3_cutAt 135 = .ok (.invokevirtual 84, 3) := by decide +kernel
theorem dX3_cutAt_138 : decode cX3_cutAt 138 = .ok (.aload_n 0, 1) := by decide +kernel
theorem dX3_cutAt_139 : decode cX3_cutAt 139 = .ok (.iload_n 1, 1) := by decide +kernel
theorem dX3_cutAt_140 : decode cX3_cutAt 140 = .ok (.aload_n 2, 1) := by decide +kernel
theorem dX3_cutAt_141 : decode cX3_cutAt 141 = .ok (.invokevirtual 104, 3) := by decide +kernel
theorem dX3_cutAt_144 : decode cX3_cutAt 144 = .ok (.return_, 1) := by decide +kernel
set_option maxRecDepth 20000 in
theorem ggX3_moveKeys_X3_holds : GoodIn wsX3_moveKeys wsX3_holds := goodIn_r _ [9, 10, 11, 12, 8, 13, 4, 35, 36, 37, 38, 39, 40, 41] (by decide +kernel) (by decide +kernel)
set_option maxRecDepth 20000 in
theorem gX3_moveKeys_X3_holds : GoodIn wsX3_moveKeys (wsV RX3 48 RX3 yX3_holds wsX3_holds) := goodIn_app (goodIn_of _ (by decide +kernel)) ggX3_moveKeys_X3_holds
set_option maxRecDepth 20000 in
theorem ggX3_moveKeys_X3_leftOf : GoodIn wsX3_moveKeys wsX3_leftOf := goodIn_r _ [17, 1, 18, 19, 20, 35, 36, 37, 38, 39, 40, 41] (by decide +kernel) (by decide +kernel)
set_option maxRecDepth 20000 in
theorem gX3_moveKeys_X3_leftOf : GoodIn wsX3_moveKeys (wsV RX3 64 RX3 yX3_leftOf wsX3_leftOf) := goodIn_app (goodIn_of _ (by decide +kernel)) ggX3_moveKeys_X3_leftOf
set_option maxRecDepth 20000 in
theorem ggX3_moveKeys_X5_put : GoodIn wsX3_moveKeys wsX5_put := goodIn_r _ [22] (by decide +kernel) (by decide +kernel)
set_option maxRecDepth 20000 in
theorem gX3_moveKeys_X5_put_n76 : GoodIn wsX3_moveKeys (wsX5_put) := ggX3_moveKeys_X5_put
set_option maxRecDepth 20000 in
theorem ggX3_moveKeys_X3_rightOf : GoodIn wsX3_moveKeys wsX3_rightOf := goodIn_r _ [26, 2, 18, 19, 20, 35, 36, 37, 38, 39, 40, 41] (by decide +kernel) (by decide +kernel)
set_option maxRecDepth 20000 in
theorem gX3_moveKeys_X3_rightOf : GoodIn wsX3_moveKeys (wsV RX3 67 RX3 yX3_rightOf wsX3_rightOf) := goodIn_app (goodIn_of _ (by decide +kernel)) ggX3_moveKeys_X3_rightOf
set_option maxRecDepth 20000 in
theorem ggX3_moveKeys_X3_upOf : GoodIn wsX3_moveKeys wsX3_upOf := goodIn_r _ [30, 3, 18, 19, 20, 35, 36, 37, 38, 39, 40, 41] (by decide +kernel) (by decide +kernel)
set_option maxRecDepth 20000 in
theorem gX3_moveKeys_X3_upOf : GoodIn wsX3_moveKeys (wsV RX3 52 RX3 yX3_upOf wsX3_upOf) := goodIn_app (goodIn_of _ (by decide +kernel)) ggX3_moveKeys_X3_upOf
set_option maxRecDepth 20000 in
theorem ggX3_moveKeys_X3_sizeOf : GoodIn wsX3_moveKeys wsX3_sizeOf := goodIn_r _ [13, 4, 35, 36, 37, 38, 39, 40, 41] (by decide +kernel) (by decide +kernel)
set_option maxRecDepth 20000 in
theorem gX3_moveKeys_X3_sizeOf : GoodIn wsX3_moveKeys (wsV RX3 44 RX3 yX3_sizeOf wsX3_sizeOf) := goodIn_app (goodIn_of _ (by decide +kernel)) ggX3_moveKeys_X3_sizeOf
set_option maxRecDepth 20000 in
theorem ggX3_moveKeys_X3_forget : GoodIn wsX3_moveKeys wsX3_forget := goodIn_r _ [34, 1, 2, 3, 4, 21, 19, 22, 35, 36, 37, 38, 39, 40, 41] (by decide +kernel) (by decide +kernel)
set_option maxRecDepth 20000 in
theorem gX3_moveKeys_X3_forget : GoodIn wsX3_moveKeys (wsV RX3 88 RX3 yX3_forget wsX3_forget) := goodIn_app (goodIn_of _ (by decide +kernel)) ggX3_moveKeys_X3_forget
theorem dX3_moveKeys_0 : decode cX3_moveKeys 0 = .ok (.iconst 0, 1) := by decide +kernel
theorem dX3_moveKeys_1 : decode cX3_moveKeys 1 = .ok (.istore_n 3, 1) := by decide +kernel
theorem dX3_moveKeys_2 : decode cX3_moveKeys 2 = .ok (.iload_n 3, 1) := by decide +kernel
theorem dX3_moveKeys_3 : decode cX3_moveKeys 3 = .ok (.bipush 64, 2) := by decide +kernel
theorem dX3_moveKeys_5 : decode cX3_moveKeys 5 = .ok (.if_icmp .ge 79, 3) := by decide +kernel
theorem dX3_moveKeys_8 : decode cX3_moveKeys 8 = .ok (.iload_n 3, 1) := by decide +kernel
theorem dX3_moveKeys_9 : decode cX3_moveKeys 9 = .ok (.iload_n 1, 1) := by decide +kernel
theorem dX3_moveKeys_10 : decode cX3_moveKeys 10 = .ok (.if_icmp .lt 68, 3) := by decide +kernel
theorem dX3_moveKeys_13 : decode cX3_moveKeys 13 = .ok (.aload_n 0, 1) := by decide +kernel
theorem dX3_moveKeys_14 : decode cX3_moveKeys 14 = .ok (.iload_n 3, 1) := by decide +kernel
theorem dX3_moveKeys_15 : decode cX3_moveKeys 15 = .ok (.invokevirtual 48, 3) := by decide +kernel
theorem dX3_moveKeys_18 : decode cX3_moveKeys 18 = .ok (.ifCond .eq 60, 3) := by decide +kernel
theorem dX3_moveKeys_21 : decode cX3_moveKeys 21 = .ok (.aload_n 2, 1) := by decide +kernel
theorem dX3_moveKeys_22 : decode cX3_moveKeys 22 = .ok (.getfield 9, 3) := by decide +kernel
theorem dX3_moveKeys_25 : decode cX3_moveKeys 25 = .ok (.iload_n 3, 1) := by decide +kernel
theorem dX3_moveKeys_26 : decode cX3_moveKeys 26 = .ok (.aload_n 0, 1) := by decide +kernel
theorem dX3_moveKeys_27 : decode cX3_moveKeys 27 = .ok (.iload_n 3, 1) := by decide +kernel
theorem dX3_moveKeys_28 : decode cX3_moveKeys 28 = .ok (.invokevirtual 64, 3) := by decide +kernel
theorem dX3_moveKeys_31 : decode cX3_moveKeys 31 = .ok (.invokestatic 76, 3) := by decide +kernel
theorem dX3_moveKeys_34 : decode cX3_moveKeys 34 = .ok (.aload_n 2, 1) := by decide +kernel
theorem dX3_moveKeys_35 : decode cX3_moveKeys 35 = .ok (.getfield 15, 3) := by decide +kernel
theorem dX3_moveKeys_38 : decode cX3_moveKeys 38 = .ok (.iload_n 3, 1) := by decide +kernel
theorem dX3_moveKeys_39 : decode cX3_moveKeys 39 = .ok (.aload_n 0, 1) := by decide +kernel
theorem dX3_moveKeys_40 : decode cX3_moveKeys 40 = .ok (.iload_n 3, 1) := by decide +kernel
theorem dX3_moveKeys_41 : decode cX3_moveKeys 41 = .ok (.invokevirtual 67, 3) := by decide +kernel
theorem dX3_moveKeys_44 : decode cX3_moveKeys 44 = .ok (.invokestatic 76, 3) := by decide +kernel
theorem dX3_moveKeys_47 : decode cX3_moveKeys 47 = .ok (.aload_n 2, 1) := by decide +kernel
theorem dX3_moveKeys_48 : decode cX3_moveKeys 48 = .ok (.getfield 18, 3) := by decide +kernel
theorem dX3_moveKeys_51 : decode cX3_moveKeys 51 = .ok (.iload_n 3, 1) := by decide +kernel
theorem dX3_moveKeys_52 : decode cX3_moveKeys 52 = .ok (.aload_n 0, 1) := by decide +kernel
theorem dX3_moveKeys_53 : decode cX3_moveKeys 53 = .ok (.iload_n 3, 1) := by decide +kernel
theorem dX3_moveKeys_54 : decode cX3_moveKeys 54 = .ok (.invokevirtual 52, 3) := by decide +kernel
theorem dX3_moveKeys_57 : decode cX3_moveKeys 57 = .ok (.invokestatic 76, 3) := by decide +kernel
theorem dX3_moveKeys_60 : decode cX3_moveKeys 60 = .ok (.aload_n 2, 1) := by decide +kernel
theorem dX3_moveKeys_61 : decode cX3_moveKeys 61 = .ok (.getfield 21, 3) := by decide +kernel
theorem dX3_moveKeys_64 : decode cX3_moveKeys 64 = .ok (.iload_n 3, 1) := by decide +kernel
theorem dX3_moveKeys_65 : decode cX3_moveKeys 65 = .ok (.aload_n 0, 1) := by decide +kernel
theorem dX3_moveKeys_66 : decode cX3_moveKeys 66 = .ok (.iload_n 3, 1) := by decide +kernel
theorem dX3_moveKeys_67 : decode cX3_moveKeys 67 = .ok (.invokevirtual 44, 3) := by decide +kernel
theorem dX3_moveKeys_70 : decode cX3_moveKeys 70 = .ok (.invokestatic 76, 3) := by decide +kernel
theorem dX3_moveKeys_73 : decode cX3_moveKeys 73 = .ok (.aload_n 0, 1) := by decide +kernel
theorem dX3_moveKeys_74 : decode cX3_moveKeys 74 = .ok (.iload_n 3, 1) := by decide +kernel
theorem dX3_moveKeys_75 : decode cX3_moveKeys 75 = .ok (.invokevirtual 88, 3) := by decide +kernel
theorem dX3_moveKeys_78 : decode cX3_moveKeys 78 = .ok (.iinc 3 1, 3) := by decide +kernel
theorem dX3_moveKeys_81 : decode cX3_moveKeys 81 = .ok (.goto (-79), 3) := by decide +kernel
theorem dX3_moveKeys_84 : decode cX3_moveKeys 84 = .ok (.return_, 1) := by decide +kernel
set_option maxRecDepth 20000 in
theorem ggX4_init_X3_init : GoodIn wsX4_init wsX3_init := goodIn_r _ [17, 18, 2, 3, 19, 20, 21, 22, 23, 24, 25, 26, 27, 28, 29, 30, 42, 43, 44, 45, 46, 47, 48] (by decide +kernel) (by decide +kernel)
set_option maxRecDepth 20000 in
theorem gX4_init_X3_init : GoodIn wsX4_init (wsX3_init) := ggX4_init_X3_init
set_option maxRecDepth 20000 in
theorem ggX4_init_X2_init : GoodIn wsX4_init wsX2_init := goodIn_r _ [33, 34, 2, 3, 19, 35, 36, 49, 50] (by decide +kernel) (by decide +kernel)
set_option maxRecDepth 20000 in
theorem gX4_init_X2_init : GoodIn wsX4_init (wsX2_init) := ggX4_init_X2_init
theorem dX4_init_0 : decode cX4_init 0 = .ok (.aload_n 0, 1) := by decide +kernel
theorem dX4_init_1 : decode cX4_init 1 = .ok (.invokespecial 3, 3) := by decide +kernel
theorem dX4_init_4 : decode cX4_init 4 = .ok (.aload_n 0, 1) := by decide +kernel
theorem dX4_init_5 : decode cX4_init 5 = .ok (.iload_n 1, 1) := by decide +kernel
theorem dX4_init_6 : decode cX4_init 6 = .ok (.putfield 9, 3) := by decide +kernel
theorem dX4_init_9 : decode cX4_init 9 = .ok (.aload_n 0, 1) := by decide +kernel
theorem dX4_init_10 : decode cX4_init 10 = .ok (.new 15, 3) := by decide +kernel
theorem dX4_init_13 : decode cX4_init 13 = .ok (.dup, 1) := by decide +kernel
theorem dX4_init_14 : decode cX4_init 14 = .ok (.invokespecial 17, 3) := by decide +kernel
theorem dX4_init_17 : decode cX4_init 17 = .ok (.putfield 18, 3) := by decide +kernel
theorem dX4_init_20 : decode cX4_init 20 = .ok (.aload_n 0, 1) := by decide +kernel
theorem dX4_init_21 : decode cX4_init 21 = .ok (.new 22, 3) := by decide +kernel
theorem dX4_init_24 : decode cX4_init 24 = .ok (.dup, 1) := by decide +kernel
theorem dX4_init_25 : decode cX4_init 25 = .ok (.invokespecial 24, 3) := by decide +kernel
theorem dX4_init_28 : decode cX4_init 28 = .ok (.putfield 25, 3) := by decide +kernel
theorem dX4_init_31 : decode cX4_init 31 = .ok (.aload_n 0, 1) := by decide +kernel
theorem dX4_init_32 : decode cX4_init 32 = .ok (.iconst 0, 1) := by decide +kernel
theorem dX4_init_33 : decode cX4_init 33 = .ok (.putfield 29, 3) := by decide +kernel
theorem dX4_init_36 : decode cX4_init 36 = .ok (.aload_n 0, 1) := by decide +kernel
theorem dX4_init_37 : decode cX4_init 37 = .ok (.iconst 0, 1) := by decide +kernel
theorem dX4_init_38 : decode cX4_init 38 = .ok (.putfield 32, 3) := by decide +kernel
theorem dX4_init_41 : decode cX4_init 41 = .ok (.return_, 1) := by decide +kernel
set_option maxRecDepth 20000 in
theorem ggX4_takeIn_X3_lastOnWay : GoodIn wsX4_takeIn wsX3_lastOnWay := goodIn_r _ [12, 13, 14, 15, 16, 11, 17, 18, 19, 20, 21, 22, 23, 24, 25, 26, 146, 147, 148, 149, 150, 151, 152] (by decide +kernel) (by decide +kernel)
set_option maxRecDepth 20000 in
theorem gX4_takeIn_X3_lastOnWay : GoodIn wsX4_takeIn (wsV RX4 35 RX3 yX3_lastOnWay wsX3_lastOnWay) := goodIn_app (goodIn_of _ (by decide +kernel)) ggX4_takeIn_X3_lastOnWay
set_option maxRecDepth 20000 in
theorem ggX4_takeIn_X3_depthOf : GoodIn wsX4_takeIn wsX3_depthOf := goodIn_r _ [30, 31, 32, 33, 11, 34, 35, 36, 37, 38, 39, 40, 41, 42, 43, 44, 19, 20, 21, 146, 147, 148, 149, 150, 151, 152] (by decide +kernel) (by decide +kernel)
set_option maxRecDepth 20000 in
theorem gX4_takeIn_X3_depthOf : GoodIn wsX4_takeIn (wsV RX4 39 RX3 yX3_depthOf wsX3_depthOf) := goodIn_app (goodIn_of _ (by decide +kernel)) ggX4_takeIn_X3_depthOf
set_option maxRecDepth 20000 in
theorem ggX4_takeIn_X3_hangNew : GoodIn wsX4_takeIn wsX3_hangNew := goodIn_r _ [48, 49, 50, 51, 11, 52, 44, 13, 18, 26, 53, 20, 54, 55, 56, 57, 58, 59, 60, 61, 62, 39, 19, 21, 35, 36, 37, 38, 40, 41, 42, 43, 146, 147, 148, 149, 150, 151, 152] (by decide +kernel) (by decide +kernel)
set_option maxRecDepth 20000 in
theorem gX4_takeIn_X3_hangNew : GoodIn wsX4_takeIn (wsV RX4 42 RX3 yX3_hangNew wsX3_hangNew) := goodIn_app (goodIn_of _ (by decide +kernel)) ggX4_takeIn_X3_hangNew
set_option maxRecDepth 20000 in
theorem ggX4_takeIn_X3_keysHeld : GoodIn wsX4_takeIn wsX3_keysHeld := goodIn_r _ [66, 13, 35, 36, 37, 11, 38, 39, 146, 147, 148, 149, 150, 151, 152] (by decide +kernel) (by decide +kernel)
set_option maxRecDepth 20000 in
theorem gX4_takeIn_X3_keysHeld : GoodIn wsX4_takeIn (wsV RX4 46 RX3 yX3_keysHeld wsX3_keysHeld) := goodIn_app (goodIn_of _ (by decide +kernel)) ggX4_takeIn_X3_keysHeld
set_option maxRecDepth 20000 in
theorem ggX4_takeIn_X4_isTooDeep : GoodIn wsX4_takeIn wsX4_isTooDeep := goodIn_r _ [70, 71, 72] (by decide +kernel) (by decide +kernel)
set_option maxRecDepth 20000 in
theorem gX4_takeIn_X4_isTooDeep : GoodIn wsX4_takeIn (va_wsS RX4 56 yX4_isTooDeep wsX4_isTooDeep) := goodIn_app (goodIn_of _ (by decide +kernel)) ggX4_takeIn_X4_isTooDeep
set_option maxRecDepth 20000 in
theorem ggX4_takeIn_X4_lopsidedAbove : GoodIn wsX4_takeIn wsX4_lopsidedAbove := goodIn_r _ [76, 1, 77, 41, 42, 11, 43, 44, 19, 20, 21, 78, 79, 80, 69, 81, 4, 5, 6, 7, 82, 15, 16, 17, 18, 83, 36, 37, 38, 39, 84, 23, 24, 25, 26, 141, 142, 143, 144, 145, 146, 147, 148, 149, 150, 151, 152] (by decide +kernel) (by decide +kernel)
set_option maxRecDepth 20000 in
theorem gX4_takeIn_X4_lopsidedAbove : GoodIn wsX4_takeIn (wsV RX4 60 RX4 yX4_lopsidedAbove wsX4_lopsidedAbove) := goodIn_app (goodIn_of _ (by decide +kernel)) ggX4_takeIn_X4_lopsidedAbove
set_option maxRecDepth 20000 in
theorem ggX4_takeIn_X4_evenOut : GoodIn wsX4_takeIn wsX4_evenOut := goodIn_r _ [88, 1, 89, 90, 91, 92, 11, 93, 94, 40, 41, 42, 43, 44, 19, 20, 21, 95, 96, 97, 98, 14, 15, 16, 17, 18, 99, 100, 101, 102, 22, 23, 24, 25, 26, 31, 32, 33, 34, 35, 36, 37, 38, 39, 53, 54, 103, 104, 105, 106, 107, 108, 109, 110, 111, 112, 113, 59, 60, 61, 62, 49, 50, 51, 52, 13, 114, 115, 116, 69, 117, 2, 3, 63, 64, 65, 66, 141, 142, 143, 144, 145, 146, 147, 148, 149, 150, 151, 152] (by decide +kernel) (by decide +kernel)
set_option maxRecDepth 20000 in
theorem gX4_takeIn_X4_evenOut : GoodIn wsX4_takeIn (wsV RX4 63 RX4 yX4_evenOut wsX4_evenOut) := goodIn_app (goodIn_of _ (by decide +kernel)) ggX4_takeIn_X4_evenOut
set_option maxRecDepth 20000 in
theorem ggX4_takeIn_X4_riseByWeight : GoodIn wsX4_takeIn wsX4_riseByWeight := goodIn_r _ [121, 1, 77, 41, 42, 11, 43, 44, 19, 20, 21, 122, 123, 124, 125, 126, 127, 128, 40, 22, 23, 24, 25, 26, 106, 107, 108, 109, 18, 53, 54, 110, 111, 112, 113, 14, 15, 16, 17, 49, 50, 51, 52, 13, 59, 60, 61, 62, 39, 35, 36, 37, 38, 141, 142, 143, 144, 145, 146, 147, 148, 149, 150, 151, 152] (by decide +kernel) (by decide +kernel)
set_option maxRecDepth 20000 in
theorem gX4_takeIn_X4_riseByWeight : GoodIn wsX4_takeIn (wsV RX4 67 RX4 yX4_riseByWeight wsX4_riseByWeight) := goodIn_app (goodIn_of _ (by decide +kernel)) ggX4_takeIn_X4_riseByWeight
set_option maxRecDepth 20000 in
theorem ggX4_takeIn_X4_act : GoodIn wsX4_takeIn wsX4_act := goodIn_r _ [132, 2, 1, 133, 134, 135, 69, 136, 77, 41, 42, 11, 43, 44, 19, 20, 21, 124, 125, 126, 127, 128, 40, 22, 23, 24, 25, 26, 106, 107, 108, 109, 18, 53, 54, 110, 111, 112, 113, 14, 15, 16, 17, 49, 50, 51, 52, 13, 59, 60, 61, 62, 39, 35, 36, 37, 38, 137, 138, 139, 140, 141, 142, 143, 144, 145, 146, 147, 148, 149, 150, 151, 152] (by decide +kernel) (by decide +kernel)
set_option maxRecDepth 20000 in
theorem gX4_takeIn_X4_act : GoodIn wsX4_takeIn (wsV RX4 70 RX4 yX4_act wsX4_act) := goodIn_app (goodIn_of _ (by decide +kernel)) ggX4_takeIn_X4_act
theorem dX4_takeIn_0 : decode cX4_takeIn 0 = .ok (.aload_n 0, 1) := by decide +kernel
theorem dX4_takeIn_1 : decode cX4_takeIn 1 = .ok (.getfield 18, 3) := by decide +kernel
theorem dX4_takeIn_4 : decode cX4_takeIn 4 = .ok (.iload_n 1, 1) := by decide +kernel
theorem dX4_takeIn_5 : decode cX4_takeIn 5 = .ok (.invokevirtual 35, 3) := by decide +kernel
theorem dX4_takeIn_8 : decode cX4_takeIn 8 = .ok (.istore_n 2, 1) := by decide +kernel
theorem dX4_takeIn_9 : decode cX4_takeIn 9 = .ok (.aload_n 0, 1) := by decide +kernel
theorem dX4_takeIn_10 : decode cX4_takeIn 10 = .ok (.getfield 18, 3) := by decide +kernel
theorem dX4_takeIn_13 : decode cX4_takeIn 13 = .ok (.iload_n 2, 1) := by decide +kernel
theorem dX4_takeIn_14 : decode cX4_takeIn 14 = .ok (.invokevirtual 39, 3) := by decide +kernel
theorem dX4_takeIn_17 : decode cX4_takeIn 17 = .ok (.istore_n 3, 1) := by decide +kernel
theorem dX4_takeIn_18 : decode cX4_takeIn 18 = .ok (.aload_n 0, 1) := by decide +kernel
theorem dX4_takeIn_19 : decode cX4_takeIn 19 = .ok (.getfield 18, 3) := by decide +kernel
theorem dX4_takeIn_22 : decode cX4_takeIn 22 = .ok (.iload_n 1, 1) := by decide +kernel
theorem dX4_takeIn_23 : decode cX4_takeIn 23 = .ok (.iload_n 2, 1) := by decide +kernel
theorem dX4_takeIn_24 : decode cX4_takeIn 24 = .ok (.invokevirtual 42, 3) := by decide +kernel
theorem dX4_takeIn_27 : decode cX4_takeIn 27 = .ok (.aload_n 0, 1) := by decide +kernel
theorem dX4_takeIn_28 : decode cX4_takeIn 28 = .ok (.getfield 9, 3) := by decide +kernel
theorem dX4_takeIn_31 : decode cX4_takeIn 31 = .ok (.iconst 4, 1) := by decide +kernel
theorem dX4_takeIn_32 : decode cX4_takeIn 32 = .ok (.if_icmp .ne 54, 3) := by decide +kernel
theorem dX4_takeIn_35 : decode cX4_takeIn 35 = .ok (.aload_n 0, 1) := by decide +kernel
theorem dX4_takeIn_36 : decode cX4_takeIn 36 = .ok (.aload_n 0, 1) := by decide +kernel
theorem dX4_takeIn_37 : decode cX4_takeIn 37 = .ok (.getfield 32, 3) := by decide +kernel
theorem dX4_takeIn_40 : decode cX4_takeIn 40 = .ok (.aload_n 0, 1) := by decide +kernel
theorem dX4_takeIn_41 : decode cX4_takeIn 41 = .ok (.getfield 18, 3) := by decide +kernel
theorem dX4_takeIn_44 : decode cX4_takeIn 44 = .ok (.invokevirtual 46, 3) := by decide +kernel
theorem dX4_takeIn_47 : decode cX4_takeIn 47 = .ok (.invokestatic 50, 3) := by decide +kernel
theorem dX4_takeIn_50 : decode cX4_takeIn 50 = .ok (.putfield 32, 3) := by decide +kernel
theorem dX4_takeIn_53 : decode cX4_takeIn 53 = .ok (.aload_n 0, 1) := by decide +kernel
theorem dX4_takeIn_54 : decode cX4_takeIn 54 = .ok (.getfield 18, 3) := by decide +kernel
theorem dX4_takeIn_57 : decode cX4_takeIn 57 = .ok (.iload_n 1, 1) := by decide +kernel
theorem dX4_takeIn_58 : decode cX4_takeIn 58 = .ok (.invokevirtual 39, 3) := by decide +kernel
theorem dX4_takeIn_61 : decode cX4_takeIn 61 = .ok (.aload_n 0, 1) := by decide +kernel
theorem dX4_takeIn_62 : decode cX4_takeIn 62 = .ok (.getfield 18, 3) := by decide +kernel
theorem dX4_takeIn_65 : decode cX4_takeIn 65 = .ok (.invokevirtual 46, 3) := by decide +kernel
theorem dX4_takeIn_68 : decode cX4_takeIn 68 = .ok (.invokestatic 56, 3) := by decide +kernel
theorem dX4_takeIn_71 : decode cX4_takeIn 71 = .ok (.ifCond .eq 36, 3) := by decide +kernel
theorem dX4_takeIn_74 : decode cX4_takeIn 74 = .ok (.aload_n 0, 1) := by decide +kernel
theorem dX4_takeIn_75 : decode cX4_takeIn 75 = .ok (.aload_n 0, 1) := by decide +kernel
theorem dX4_takeIn_76 : decode cX4_takeIn 76 = .ok (.iload_n 1, 1) := by decide +kernel
theorem dX4_takeIn_77 : decode cX4_takeIn 77 = .ok (.invokevirtual 60, 3) := by decide +kernel
theorem dX4_takeIn_80 : decode cX4_takeIn 80 = .ok (.invokevirtual 63, 3) := by decide +kernel
theorem dX4_takeIn_83 : decode cX4_takeIn 83 = .ok (.goto 24, 3) := by decide +kernel
theorem dX4_takeIn_86 : decode cX4_takeIn 86 = .ok (.aload_n 0, 1) := by decide +kernel
theorem dX4_takeIn_87 : decode cX4_takeIn 87 = .ok (.getfield 9, 3) := by decide +kernel
theorem dX4_takeIn_90 : decode cX4_takeIn 90 = .ok (.iconst 5, 1) := by decide +kernel
theorem dX4_takeIn_91 : decode cX4_takeIn 91 = .ok (.if_icmp .ne 11, 3) := by decide +kernel
theorem dX4_takeIn_94 : decode cX4_takeIn 94 = .ok (.aload_n 0, 1) := by decide +kernel
theorem dX4_takeIn_95 : decode cX4_takeIn 95 = .ok (.iload_n 1, 1) := by decide +kernel
theorem dX4_takeIn_96 : decode cX4_takeIn 96 = .ok (.invokevirtual 67, 3) := by decide +kernel
theorem dX4_takeIn_99 : decode cX4_takeIn 99 = .ok (.goto 8, 3) := by decide +kernel
theorem dX4_takeIn_102 : decode cX4_takeIn 102 = .ok (.aload_n 0, 1) := by decide +kernel
theorem dX4_takeIn_103 : decode cX4_takeIn 103 = .ok (.iload_n 1, 1) := by decide +kernel
theorem dX4_takeIn_104 : decode cX4_takeIn 104 = .ok (.invokevirtual 70, 3) := by decide +kernel
theorem dX4_takeIn_107 : decode cX4_takeIn 107 = .ok (.iload_n 3, 1) := by decide +kernel
theorem dX4_takeIn_108 : decode cX4_takeIn 108 = .ok (.ireturn, 1) := by decide +kernel
set_option maxRecDepth 20000 in
theorem ggX4_seek_X3_lastOnWay : GoodIn wsX4_seek wsX3_lastOnWay := goodIn_r _ [8, 9, 10, 11, 12, 7, 13, 14, 15, 16, 17, 18, 19, 20, 21, 22, 91, 92, 93, 94, 95, 96, 97] (by decide +kernel) (by decide +kernel)
set_option maxRecDepth 20000 in
theorem gX4_seek_X3_lastOnWay : GoodIn wsX4_seek (wsV RX4 35 RX3 yX3_lastOnWay wsX3_lastOnWay) := goodIn_app (goodIn_of _ (by decide +kernel)) ggX4_seek_X3_lastOnWay
set_option maxRecDepth 20000 in
theorem ggX4_seek_X3_depthOf : GoodIn wsX4_seek wsX3_depthOf := goodIn_r _ [26, 27, 28, 29, 7, 30, 31, 32, 33, 34, 35, 36, 37, 38, 39, 40, 15, 16, 17, 91, 92, 93, 94, 95, 96, 97] (by decide +kernel) (by decide +kernel)
set_option maxRecDepth 20000 in
theorem gX4_seek_X3_depthOf : GoodIn wsX4_seek (wsV RX4 39 RX3 yX3_depthOf wsX3_depthOf) := goodIn_app (goodIn_of _ (by decide +kernel)) ggX4_seek_X3_depthOf
set_option maxRecDepth 20000 in
theorem ggX4_seek_X2_write : GoodIn wsX4_seek wsX2_write := goodIn_r _ [45, 46, 47, 48, 16, 49, 98, 99] (by decide +kernel) (by decide +kernel)
set_option maxRecDepth 20000 in
theorem gX4_seek_X2_write : GoodIn wsX4_seek (wsV RX4 73 RX2 yX2_write wsX2_write) := goodIn_app (goodIn_of _ (by decide +kernel)) ggX4_seek_X2_write
set_option maxRecDepth 20000 in
theorem ggX4_seek_X4_act : GoodIn wsX4_seek wsX4_act := goodIn_r _ [54, 55, 1, 56, 57, 58, 53, 59, 60, 37, 38, 7, 39, 40, 15, 16, 17, 61, 62, 63, 64, 65, 36, 18, 19, 20, 21, 22, 66, 67, 68, 69, 14, 48, 49, 70, 71, 72, 73, 10, 11, 12, 13, 74, 75, 76, 77, 9, 78, 79, 80, 81, 35, 31, 32, 33, 34, 82, 83, 84, 85, 86, 87, 88, 89, 90, 91, 92, 93, 94, 95, 96, 97] (by decide +kernel) (by decide +kernel)
set_option maxRecDepth 20000 in
theorem gX4_seek_X4_act : GoodIn wsX4_seek (wsV RX4 70 RX4 yX4_act wsX4_act) := goodIn_app (goodIn_of _ (by decide +kernel)) ggX4_seek_X4_act
theorem dX4_seek_0 : decode cX4_seek 0 = .ok (.aload_n 0, 1) := by decide +kernel
theorem dX4_seek_1 : decode cX4_seek 1 = .ok (.getfield 18, 3) := by decide +kernel
theorem dX4_seek_4 : decode cX4_seek 4 = .ok (.iload_n 1, 1) := by decide +kernel
theorem dX4_seek_5 : decode cX4_seek 5 = .ok (.invokevirtual 35, 3) := by decide +kernel
theorem dX4_seek_8 : decode cX4_seek 8 = .ok (.istore_n 2, 1) := by decide +kernel
theorem dX4_seek_9 : decode cX4_seek 9 = .ok (.aload_n 0, 1) := by decide +kernel
theorem dX4_seek_10 : decode cX4_seek 10 = .ok (.getfield 18, 3) := by decide +kernel
theorem dX4_seek_13 : decode cX4_seek 13 = .ok (.iload_n 2, 1) := by decide +kernel
theorem dX4_seek_14 : decode cX4_seek 14 = .ok (.invokevirtual 39, 3) := by decide +kernel
theorem dX4_seek_17 : decode cX4_seek 17 = .ok (.istore_n 3, 1) := by decide +kernel
theorem dX4_seek_18 : decode cX4_seek 18 = .ok (.aload_n 0, 1) := by decide +kernel
theorem dX4_seek_19 : decode cX4_seek 19 = .ok (.dup, 1) := by decide +kernel
theorem dX4_seek_20 : decode cX4_seek 20 = .ok (.getfield 29, 3) := by decide +kernel
theorem dX4_seek_23 : decode cX4_seek 23 = .ok (.iload_n 3, 1) := by decide +kernel
theorem dX4_seek_24 : decode cX4_seek 24 = .ok (.iadd, 1) := by decide +kernel
theorem dX4_seek_25 : decode cX4_seek 25 = .ok (.putfield 29, 3) := by decide +kernel
theorem dX4_seek_28 : decode cX4_seek 28 = .ok (.aload_n 0, 1) := by decide +kernel
theorem dX4_seek_29 : decode cX4_seek 29 = .ok (.getfield 25, 3) := by decide +kernel
theorem dX4_seek_32 : decode cX4_seek 32 = .ok (.iload_n 1, 1) := by decide +kernel
theorem dX4_seek_33 : decode cX4_seek 33 = .ok (.invokevirtual 73, 3) := by decide +kernel
theorem dX4_seek_36 : decode cX4_seek 36 = .ok (.aload_n 0, 1) := by decide +kernel
theorem dX4_seek_37 : decode cX4_seek 37 = .ok (.iload_n 2, 1) := by decide +kernel
theorem dX4_seek_38 : decode cX4_seek 38 = .ok (.invokevirtual 70, 3) := by decide +kernel
theorem dX4_seek_41 : decode cX4_seek 41 = .ok (.iload_n 2, 1) := by decide +kernel
theorem dX4_seek_42 : decode cX4_seek 42 = .ok (.iload_n 1, 1) := by decide +kernel
theorem dX4_seek_43 : decode cX4_seek 43 = .ok (.if_icmp .ne 7, 3) := by decide +kernel
theorem dX4_seek_46 : decode cX4_seek 46 = .ok (.iload_n 3, 1) := by decide +kernel
theorem dX4_seek_47 : decode cX4_seek 47 = .ok (.goto 5, 3) := by decide +kernel
theorem dX4_seek_50 : decode cX4_seek 50 = .ok (.iload_n 3, 1) := by decide +kernel
theorem dX4_seek_51 : decode cX4_seek 51 = .ok (.ineg, 1) := by decide +kernel
theorem dX4_seek_52 : decode cX4_seek 52 = .ok (.ireturn, 1) := by decide +kernel
set_option maxRecDepth 20000 in
theorem ggX4_giveUp_X3_lastOnWay : GoodIn wsX4_giveUp wsX3_lastOnWay := goodIn_r _ [9, 10, 11, 12, 13, 8, 14, 15, 16, 17, 18, 19, 20, 21, 22, 23, 137, 138, 139, 140, 141, 142, 143] (by decide +kernel) (by decide +kernel)
set_option maxRecDepth 20000 in
theorem gX4_giveUp_X3_lastOnWay : GoodIn wsX4_giveUp (wsV RX4 35 RX3 yX3_lastOnWay wsX3_lastOnWay) := goodIn_app (goodIn_of _ (by decide +kernel)) ggX4_giveUp_X3_lastOnWay
set_option maxRecDepth 20000 in
theorem ggX4_giveUp_X3_depthOf : GoodIn wsX4_giveUp wsX3_depthOf := goodIn_r _ [27, 28, 29, 30, 8, 31, 32, 33, 34, 35, 36, 37, 38, 39, 40, 41, 16, 17, 18, 137, 138, 139, 140, 141, 142, 143] (by decide +kernel) (by decide +kernel)
set_option maxRecDepth 20000 in
theorem gX4_giveUp_X3_depthOf : GoodIn wsX4_giveUp (wsV RX4 39 RX3 yX3_depthOf wsX3_depthOf) := goodIn_app (goodIn_of _ (by decide +kernel)) ggX4_giveUp_X3_depthOf
set_option maxRecDepth 20000 in
theorem ggX4_giveUp_X4_act : GoodIn wsX4_giveUp wsX4_act := goodIn_r _ [46, 2, 1, 47, 48, 49, 45, 50, 51, 38, 39, 8, 40, 41, 16, 17, 18, 52, 53, 54, 55, 56, 37, 19, 20, 21, 22, 23, 57, 58, 59, 60, 15, 61, 62, 63, 64, 65, 66, 11, 12, 13, 14, 67, 68, 69, 70, 10, 71, 72, 73, 74, 36, 32, 33, 34, 35, 75, 76, 77, 78, 132, 133, 134, 135, 136, 137, 138, 139, 140, 141, 142, 143] (by decide +kernel) (by decide +kernel)
set_option maxRecDepth 20000 in
theorem gX4_giveUp_X4_act : GoodIn wsX4_giveUp (wsV RX4 70 RX4 yX4_act wsX4_act) := goodIn_app (goodIn_of _ (by decide +kernel)) ggX4_giveUp_X4_act
set_option maxRecDepth 20000 in
theorem ggX4_giveUp_X4_sink : GoodIn wsX4_giveUp wsX4_sink := goodIn_r _ [82, 1, 83, 33, 34, 8, 35, 36, 84, 85, 86, 45, 87, 2, 88, 12, 13, 14, 15, 16, 17, 18, 89, 20, 21, 22, 23, 90, 91, 52, 53, 54, 55, 56, 37, 38, 39, 40, 41, 19, 57, 58, 59, 60, 61, 62, 63, 64, 65, 66, 11, 67, 68, 69, 70, 10, 71, 72, 73, 74, 32, 132, 133, 134, 135, 136, 137, 138, 139, 140, 141, 142, 143] (by decide +kernel) (by decide +kernel)
set_option maxRecDepth 20000 in
theorem gX4_giveUp_X4_sink : GoodIn wsX4_giveUp (wsV RX4 76 RX4 yX4_sink wsX4_sink) := goodIn_app (goodIn_of _ (by decide +kernel)) ggX4_giveUp_X4_sink
set_option maxRecDepth 20000 in
theorem ggX4_giveUp_X3_upOf : GoodIn wsX4_giveUp wsX3_upOf := goodIn_r _ [40, 41, 16, 17, 18, 137, 138, 139, 140, 141, 142, 143] (by decide +kernel) (by decide +kernel)
set_option maxRecDepth 20000 in
theorem gX4_giveUp_X3_upOf : GoodIn wsX4_giveUp (wsV RX4 79 RX3 yX3_upOf wsX3_upOf) := goodIn_app (goodIn_of _ (by decide +kernel)) ggX4_giveUp_X3_upOf
set_option maxRecDepth 20000 in
theorem ggX4_giveUp_X3_takeOff : GoodIn wsX4_giveUp wsX3_takeOff := goodIn_r _ [95, 10, 15, 23, 37, 38, 39, 8, 40, 41, 16, 17, 18, 61, 62, 96, 97, 98, 99, 36, 100, 101, 102, 103, 71, 72, 73, 74, 32, 33, 34, 35, 137, 138, 139, 140, 141, 142, 143] (by decide +kernel) (by decide +kernel)
set_option maxRecDepth 20000 in
theorem gX4_giveUp_X3_takeOff : GoodIn wsX4_giveUp (wsV RX4 82 RX3 yX3_takeOff wsX3_takeOff) := goodIn_app (goodIn_of _ (by decide +kernel)) ggX4_giveUp_X3_takeOff
set_option maxRecDepth 20000 in
theorem ggX4_giveUp_X3_keysHeld : GoodIn wsX4_giveUp wsX3_keysHeld := goodIn_r _ [107, 10, 32, 33, 34, 8, 35, 36, 137, 138, 139, 140, 141, 142, 143] (by decide +kernel) (by decide +kernel)
set_option maxRecDepth 20000 in
theorem gX4_giveUp_X3_keysHeld : GoodIn wsX4_giveUp (wsV RX4 46 RX3 yX3_keysHeld wsX3_keysHeld) := goodIn_app (goodIn_of _ (by decide +kernel)) ggX4_giveUp_X3_keysHeld
set_option maxRecDepth 20000 in
theorem ggX4_giveUp_X4_evenOut : GoodIn wsX4_giveUp wsX4_evenOut := goodIn_r _ [111, 1, 4, 112, 113, 114, 8, 115, 116, 37, 38, 39, 40, 41, 16, 17, 18, 117, 118, 119, 120, 11, 12, 13, 14, 15, 121, 122, 123, 124, 19, 20, 21, 22, 23, 28, 29, 30, 31, 32, 33, 34, 35, 36, 61, 62, 125, 126, 127, 57, 58, 59, 60, 63, 64, 65, 66, 71, 72, 73, 74, 67, 68, 69, 70, 10, 128, 129, 130, 45, 131, 2, 3, 104, 105, 106, 107, 132, 133, 134, 135, 136, 137, 138, 139, 140, 141, 142, 143] (by decide +kernel) (by decide +kernel)
set_option maxRecDepth 20000 in
theorem gX4_giveUp_X4_evenOut : GoodIn wsX4_giveUp (wsV RX4 63 RX4 yX4_evenOut wsX4_evenOut) := goodIn_app (goodIn_of _ (by decide +kernel)) ggX4_giveUp_X4_evenOut
theorem dX4_giveUp_0 : decode cX4_giveUp 0 = .ok (.aload_n 0, 1) := by decide +kernel
theorem dX4_giveUp_1 : decode cX4_giveUp 1 = .ok (.getfield 18, 3) := by decide +kernel
theorem dX4_giveUp_4 : decode cX4_giveUp 4 = .ok (.iload_n 1, 1) := by decide +kernel
theorem dX4_giveUp_5 : decode cX4_giveUp 5 = .ok (.invokevirtual 35, 3) := by decide +kernel
theorem dX4_giveUp_8 : decode cX4_giveUp 8 = .ok (.istore_n 2, 1) := by decide +kernel
theorem dX4_giveUp_9 : decode cX4_giveUp 9 = .ok (.aload_n 0, 1) := by decide +kernel
theorem dX4_giveUp_10 : decode cX4_giveUp 10 = .ok (.getfield 18, 3) := by decide +kernel
theorem dX4_giveUp_13 : decode cX4_giveUp 13 = .ok (.iload_n 2, 1) := by decide +kernel
theorem dX4_giveUp_14 : decode cX4_giveUp 14 = .ok (.invokevirtual 39, 3) := by decide +kernel
theorem dX4_giveUp_17 : decode cX4_giveUp 17 = .ok (.istore_n 3, 1) := by decide +kernel
theorem dX4_giveUp_18 : decode cX4_giveUp 18 = .ok (.iload_n 2, 1) := by decide +kernel
theorem dX4_giveUp_19 : decode cX4_giveUp 19 = .ok (.iload_n 1, 1) := by decide +kernel
theorem dX4_giveUp_20 : decode cX4_giveUp 20 = .ok (.if_icmp .eq 11, 3) := by decide +kernel
theorem dX4_giveUp_23 : decode cX4_giveUp 23 = .ok (.aload_n 0, 1) := by decide +kernel
theorem dX4_giveUp_24 : decode cX4_giveUp 24 = .ok (.iload_n 2, 1) := by decide +kernel
theorem dX4_giveUp_25 : decode cX4_giveUp 25 = .ok (.invokevirtual 70, 3) := by decide +kernel
theorem dX4_giveUp_28 : decode cX4_giveUp 28 = .ok (.iload_n 3, 1) := by decide +kernel
theorem dX4_giveUp_29 : decode cX4_giveUp 29 = .ok (.ineg, 1) := by decide +kernel
theorem dX4_giveUp_30 : decode cX4_giveUp 30 = .ok (.ireturn, 1) := by decide +kernel
theorem dX4_giveUp_31 : decode cX4_giveUp 31 = .ok (.aload_n 0, 1) := by decide +kernel
theorem dX4_giveUp_32 : decode cX4_giveUp 32 = .ok (.iload_n 1, 1) := by decide +kernel
theorem dX4_giveUp_33 : decode cX4_giveUp 33 = .ok (.invokevirtual 76, 3) := by decide +kernel
theorem dX4_giveUp_36 : decode cX4_giveUp 36 = .ok (.aload_n 0, 1) := by decide +kernel
theorem dX4_giveUp_37 : decode cX4_giveUp 37 = .ok (.getfield 18, 3) := by decide +kernel
theorem dX4_giveUp_40 : decode cX4_giveUp 40 = .ok (.iload_n 1, 1) := by decide +kernel
theorem dX4_giveUp_41 : decode cX4_giveUp 41 = .ok (.invokevirtual 79, 3) := by decide +kernel
theorem dX4_giveUp_44 : decode cX4_giveUp 44 = .ok (.istore 4, 2) := by decide +kernel
theorem dX4_giveUp_46 : decode cX4_giveUp 46 = .ok (.aload_n 0, 1) := by decide +kernel
theorem dX4_giveUp_47 : decode cX4_giveUp 47 = .ok (.getfield 18, 3) := by decide +kernel
theorem dX4_giveUp_50 : decode cX4_giveUp 50 = .ok (.iload_n 1, 1) := by decide +kernel
theorem dX4_giveUp_51 : decode cX4_giveUp 51 = .ok (.invokevirtual 82, 3) := by decide +kernel
theorem dX4_giveUp_54 : decode cX4_giveUp 54 = .ok (.aload_n 0, 1) := by decide +kernel
theorem dX4_giveUp_55 : decode cX4_giveUp 55 = .ok (.iload 4, 2) := by decide +kernel
theorem dX4_giveUp_57 : decode cX4_giveUp 57 = .ok (.invokevirtual 70, 3) := by decide +kernel
theorem dX4_giveUp_60 : decode cX4_giveUp 60 = .ok (.aload_n 0, 1) := by decide +kernel
theorem dX4_giveUp_61 : decode cX4_giveUp 61 = .ok (.getfield 9, 3) := by decide +kernel
theorem dX4_giveUp_64 : decode cX4_giveUp 64 = .ok (.iconst 4, 1) := by decide +kernel
theorem dX4_giveUp_65 : decode cX4_giveUp 65 = .ok (.if_icmp .ne 32, 3) := by decide +kernel
theorem dX4_giveUp_68 : decode cX4_giveUp 68 = .ok (.iconst 3, 1) := by decide +kernel
theorem dX4_giveUp_69 : decode cX4_giveUp 69 = .ok (.aload_n 0, 1) := by decide +kernel
theorem dX4_giveUp_70 : decode cX4_giveUp 70 = .ok (.getfield 18, 3) := by decide +kernel
theorem dX4_giveUp_73 : decode cX4_giveUp 73 = .ok (.invokevirtual 46, 3) := by decide +kernel
theorem dX4_giveUp_76 : decode cX4_giveUp 76 = .ok (.imul, 1) := by decide +kernel
theorem dX4_giveUp_77 : decode cX4_giveUp 77 = .ok (.iconst 2, 1) := by decide +kernel
theorem dX4_giveUp_78 : decode cX4_giveUp 78 = .ok (.aload_n 0, 1) := by decide +kernel
theorem dX4_giveUp_79 : decode cX4_giveUp 79 = .ok (.getfield 32, 3) := by decide +kernel
theorem dX4_giveUp_82 : decode cX4_giveUp 82 = .ok (.imul, 1) := by decide +kernel
theorem dX4_giveUp_83 : decode cX4_giveUp 83 = .ok (.if_icmp .ge 14, 3) := by decide +kernel
theorem dX4_giveUp_86 : decode cX4_giveUp 86 = .ok (.aload_n 0, 1) := by decide +kernel
theorem dX4_giveUp_87 : decode cX4_giveUp 87 = .ok (.aload_n 0, 1) := by decide +kernel
theorem dX4_giveUp_88 : decode cX4_giveUp 88 = .ok (.getfield 18, 3) := by decide +kernel
theorem dX4_giveUp_91 : decode cX4_giveUp 91 = .ok (.getfield 85, 3) := by decide +kernel
theorem dX4_giveUp_94 : decode cX4_giveUp 94 = .ok (.invokevirtual 63, 3) := by decide +kernel
theorem dX4_giveUp_97 : decode cX4_giveUp 97 = .ok (.iload_n 3, 1) := by decide +kernel
theorem dX4_giveUp_98 : decode cX4_giveUp 98 = .ok (.ireturn, 1) := by decide +kernel
set_option maxRecDepth 20000 in
theorem ggX4_takeOver_X3_moveKeys : GoodIn wsX4_takeOver wsX3_moveKeys := goodIn_r _ [8, 9, 10, 11, 12, 13, 14, 15, 7, 16, 17, 18, 19, 20, 21, 22, 23, 24, 25, 26, 27, 28, 29, 30, 31, 32, 33, 34, 35, 36, 37, 38, 39, 40, 41, 92, 93, 94, 95, 96, 97, 98] (by decide +kernel) (by decide +kernel)
set_option maxRecDepth 20000 in
theorem gX4_takeOver_X3_moveKeys : GoodIn wsX4_takeOver (wsV RX4 88 RX3 yX3_moveKeys wsX3_moveKeys) := goodIn_app (goodIn_of _ (by decide +kernel)) ggX4_takeOver_X3_moveKeys
set_option maxRecDepth 20000 in
theorem ggX4_takeOver_X3_hang : GoodIn wsX4_takeOver wsX3_hang := goodIn_r _ [45, 11, 46, 9, 10, 28, 26, 29, 92, 93, 94, 95, 96, 97, 98] (by decide +kernel) (by decide +kernel)
set_option maxRecDepth 20000 in
theorem gX4_takeOver_X3_hang : GoodIn wsX4_takeOver (wsV RX4 92 RX3 yX3_hang wsX3_hang) := goodIn_app (goodIn_of _ (by decide +kernel)) ggX4_takeOver_X3_hang
set_option maxRecDepth 20000 in
theorem ggX4_takeOver_X4_mergeByWeight : GoodIn wsX4_takeOver wsX4_mergeByWeight := goodIn_r _ [51, 1, 52, 26, 53, 42, 43, 44, 7, 45, 11, 46, 9, 10, 28, 29, 54, 31, 32, 33, 25, 27, 55, 22, 23, 24, 56, 57, 58, 59, 60, 61, 62, 63, 12, 17, 18, 19, 20, 34, 35, 36, 37, 87, 88, 89, 90, 91, 92, 93, 94, 95, 96, 97, 98] (by decide +kernel) (by decide +kernel)
set_option maxRecDepth 20000 in
theorem gX4_takeOver_X4_mergeByWeight : GoodIn wsX4_takeOver (wsV RX4 95 RX4 yX4_mergeByWeight wsX4_mergeByWeight) := goodIn_app (goodIn_of _ (by decide +kernel)) ggX4_takeOver_X4_mergeByWeight
set_option maxRecDepth 20000 in
theorem ggX4_takeOver_X3_greatestUnder : GoodIn wsX4_takeOver wsX3_greatestUnder := goodIn_r _ [67, 30, 31, 32, 7, 33, 10, 25, 26, 27, 92, 93, 94, 95, 96, 97, 98] (by decide +kernel) (by decide +kernel)
set_option maxRecDepth 20000 in
theorem gX4_takeOver_X3_greatestUnder : GoodIn wsX4_takeOver (wsV RX4 98 RX3 yX3_greatestUnder wsX3_greatestUnder) := goodIn_app (goodIn_of _ (by decide +kernel)) ggX4_takeOver_X3_greatestUnder
set_option maxRecDepth 20000 in
theorem ggX4_takeOver_X4_raiseToRoot : GoodIn wsX4_takeOver wsX4_raiseToRoot := goodIn_r _ [71, 1, 72, 35, 36, 7, 37, 11, 25, 26, 27, 73, 74, 75, 76, 77, 34, 30, 31, 32, 33, 10, 78, 79, 80, 81, 9, 28, 29, 82, 83, 84, 85, 21, 22, 23, 24, 86, 43, 44, 45, 46, 60, 61, 62, 63, 12, 17, 18, 19, 20, 87, 88, 89, 90, 91, 92, 93, 94, 95, 96, 97, 98] (by decide +kernel) (by decide +kernel)
set_option maxRecDepth 20000 in
theorem gX4_takeOver_X4_raiseToRoot : GoodIn wsX4_takeOver (wsV RX4 101 RX4 yX4_raiseToRoot wsX4_raiseToRoot) := goodIn_app (goodIn_of _ (by decide +kernel)) ggX4_takeOver_X4_raiseToRoot
set_option maxRecDepth 20000 in
theorem ggX4_takeOver_X3_resizeUpFrom : GoodIn wsX4_takeOver wsX3_resizeUpFrom := goodIn_r _ [59, 60, 61, 62, 7, 63, 12, 9, 10, 25, 26, 27, 17, 18, 19, 20, 28, 29, 34, 35, 36, 37, 11, 92, 93, 94, 95, 96, 97, 98] (by decide +kernel) (by decide +kernel)
set_option maxRecDepth 20000 in
theorem gX4_takeOver_X3_resizeUpFrom : GoodIn wsX4_takeOver (wsV RX4 104 RX3 yX3_resizeUpFrom wsX3_resizeUpFrom) := goodIn_app (goodIn_of _ (by decide +kernel)) ggX4_takeOver_X3_resizeUpFrom
theorem dX4_takeOver_0 : decode cX4_takeOver 0 = .ok (.aload_n 0, 1) := by decide +kernel
theorem dX4_takeOver_1 : decode cX4_takeOver 1 = .ok (.getfield 18, 3) := by decide +kernel
theorem dX4_takeOver_4 : decode cX4_takeOver 4 = .ok (.getfield 85, 3) := by decide +kernel
theorem dX4_takeOver_7 : decode cX4_takeOver 7 = .ok (.istore_n 2, 1) := by decide +kernel
theorem dX4_takeOver_8 : decode cX4_takeOver 8 = .ok (.aload_n 1, 1) := by decide +kernel
theorem dX4_takeOver_9 : decode cX4_takeOver 9 = .ok (.getfield 18, 3) := by decide +kernel
theorem dX4_takeOver_12 : decode cX4_takeOver 12 = .ok (.getfield 85, 3) := by decide +kernel
theorem dX4_takeOver_15 : decode cX4_takeOver 15 = .ok (.istore_n 3, 1) := by decide +kernel
theorem dX4_takeOver_16 : decode cX4_takeOver 16 = .ok (.aload_n 1, 1) := by decide +kernel
theorem dX4_takeOver_17 : decode cX4_takeOver 17 = .ok (.getfield 18, 3) := by decide +kernel
theorem dX4_takeOver_20 : decode cX4_takeOver 20 = .ok (.iconst 0, 1) := by decide +kernel
theorem dX4_takeOver_21 : decode cX4_takeOver 21 = .ok (.aload_n 0, 1) := by decide +kernel
theorem dX4_takeOver_22 : decode cX4_takeOver 22 = .ok (.getfield 18, 3) := by decide +kernel
theorem dX4_takeOver_25 : decode cX4_takeOver 25 = .ok (.invokevirtual 88, 3) := by decide +kernel
theorem dX4_takeOver_28 : decode cX4_takeOver 28 = .ok (.aload_n 1, 1) := by decide +kernel
theorem dX4_takeOver_29 : decode cX4_takeOver 29 = .ok (.getfield 18, 3) := by decide +kernel
theorem dX4_takeOver_32 : decode cX4_takeOver 32 = .ok (.iconst (-1), 1) := by decide +kernel
theorem dX4_takeOver_33 : decode cX4_takeOver 33 = .ok (.putfield 85, 3) := by decide +kernel
theorem dX4_takeOver_36 : decode cX4_takeOver 36 = .ok (.iload_n 2, 1) := by decide +kernel
theorem dX4_takeOver_37 : decode cX4_takeOver 37 = .ok (.iconst (-1), 1) := by decide +kernel
theorem dX4_takeOver_38 : decode cX4_takeOver 38 = .ok (.if_icmp .ne 15, 3) := by decide +kernel
theorem dX4_takeOver_41 : decode cX4_takeOver 41 = .ok (.aload_n 0, 1) := by decide +kernel
theorem dX4_takeOver_42 : decode cX4_takeOver 42 = .ok (.getfield 18, 3) := by decide +kernel
theorem dX4_takeOver_45 : decode cX4_takeOver 45 = .ok (.iload_n 3, 1) := by decide +kernel
theorem dX4_takeOver_46 : decode cX4_takeOver 46 = .ok (.iconst (-1), 1) := by decide +kernel
theorem dX4_takeOver_47 : decode cX4_takeOver 47 = .ok (.invokevirtual 92, 3) := by decide +kernel
theorem dX4_takeOver_50 : decode cX4_takeOver 50 = .ok (.goto 65, 3) := by decide +kernel
theorem dX4_takeOver_53 : decode cX4_takeOver 53 = .ok (.iload_n 3, 1) := by decide +kernel
theorem dX4_takeOver_54 : decode cX4_takeOver 54 = .ok (.iconst (-1), 1) := by decide +kernel
theorem dX4_takeOver_55 : decode cX4_takeOver 55 = .ok (.if_icmp .eq 20, 3) := by decide +kernel
theorem dX4_takeOver_58 : decode cX4_takeOver 58 = .ok (.aload_n 0, 1) := by decide +kernel
theorem dX4_takeOver_59 : decode cX4_takeOver 59 = .ok (.getfield 9, 3) := by decide +kernel
theorem dX4_takeOver_62 : decode cX4_takeOver 62 = .ok (.iconst 5, 1) := by decide +kernel
theorem dX4_takeOver_63 : decode cX4_takeOver 63 = .ok (.if_icmp .ne 12, 3) := by decide +kernel
theorem dX4_takeOver_66 : decode cX4_takeOver 66 = .ok (.aload_n 0, 1) := by decide +kernel
theorem dX4_takeOver_67 : decode cX4_takeOver 67 = .ok (.iload_n 2, 1) := by decide +kernel
theorem dX4_takeOver_68 : decode cX4_takeOver 68 = .ok (.iload_n 3, 1) := by decide +kernel
theorem dX4_takeOver_69 : decode cX4_takeOver 69 = .ok (.invokevirtual 95, 3) := by decide +kernel
theorem dX4_takeOver_72 : decode cX4_takeOver 72 = .ok (.goto 43, 3) := by decide +kernel
theorem dX4_takeOver_75 : decode cX4_takeOver 75 = .ok (.iload_n 3, 1) := by decide +kernel
theorem dX4_takeOver_76 : decode cX4_takeOver 76 = .ok (.iconst (-1), 1) := by decide +kernel
theorem dX4_takeOver_77 : decode cX4_takeOver 77 = .ok (.if_icmp .eq 38, 3) := by decide +kernel
theorem dX4_takeOver_80 : decode cX4_takeOver 80 = .ok (.aload_n 0, 1) := by decide +kernel
theorem dX4_takeOver_81 : decode cX4_takeOver 81 = .ok (.getfield 18, 3) := by decide +kernel
theorem dX4_takeOver_84 : decode cX4_takeOver 84 = .ok (.iload_n 2, 1) := by decide +kernel
theorem dX4_takeOver_85 : decode cX4_takeOver 85 = .ok (.invokevirtual 98, 3) := by decide +kernel
theorem dX4_takeOver_88 : decode cX4_takeOver 88 = .ok (.istore 4, 2) := by decide +kernel
theorem dX4_takeOver_90 : decode cX4_takeOver 90 = .ok (.aload_n 0, 1) := by decide +kernel
theorem dX4_takeOver_91 : decode cX4_takeOver 91 = .ok (.iload 4, 2) := by decide +kernel
theorem dX4_takeOver_93 : decode cX4_takeOver 93 = .ok (.invokevirtual 101, 3) := by decide +kernel
theorem dX4_takeOver_96 : decode cX4_takeOver 96 = .ok (.aload_n 0, 1) := by decide +kernel
theorem dX4_takeOver_97 : decode cX4_takeOver 97 = .ok (.getfield 18, 3) := by decide +kernel
theorem dX4_takeOver_100 : decode cX4_takeOver 100 = .ok (.iload_n 3, 1) := by decide +kernel
theorem dX4_takeOver_101 : decode cX4_takeOver 101 = .ok (.iload 4, 2) := by decide +kernel
theorem dX4_takeOver_103 : decode cX4_takeOver 103 = .ok (.invokevirtual 92, 3) := by decide +kernel
theorem dX4_takeOver_106 : decode cX4_takeOver 106 = .ok (.aload_n 0, 1) := by decide +kernel
theorem dX4_takeOver_107 : decode cX4_takeOver 107 = .ok (.getfield 18, 3) := by decide +kernel
theorem dX4_takeOver_110 : decode cX4_takeOver 110 = .ok (.iload 4, 2) := by decide +kernel
theorem dX4_takeOver_112 : decode cX4_takeOver 112 = .ok (.invokevirtual 104, 3) := by decide +kernel
theorem dX4_takeOver_115 : decode cX4_takeOver 115 = .ok (.return_, 1) := by decide +kernel
set_option maxRecDepth 20000 in
theorem ggX4_beginMost_X3_keysHeld : GoodIn wsX4_beginMost wsX3_keysHeld := goodIn_r _ [8, 9, 10, 11, 12, 7, 13, 14, 20, 21, 22, 23, 24, 25, 26] (by decide +kernel) (by decide +kernel)
set_option maxRecDepth 20000 in
theorem gX4_beginMost_X3_keysHeld : GoodIn wsX4_beginMost (wsV RX4 46 RX3 yX3_keysHeld wsX3_keysHeld) := goodIn_app (goodIn_of _ (by decide +kernel)) ggX4_beginMost_X3_keysHeld
theorem dX4_beginMost_0 : decode cX4_beginMost 0 = .ok (.aload_n 0, 1) := by decide +kernel
theorem dX4_beginMost_1 : decode cX4_beginMost 1 = .ok (.aload_n 0, 1) := by decide +kernel
theorem dX4_beginMost_2 : decode cX4_beginMost 2 = .ok (.getfield 9, 3) := by decide +kernel
theorem dX4_beginMost_5 : decode cX4_beginMost 5 = .ok (.iconst 4, 1) := by decide +kernel
theorem dX4_beginMost_6 : decode cX4_beginMost 6 = .ok (.if_icmp .ne 13, 3) := by decide +kernel
theorem dX4_beginMost_9 : decode cX4_beginMost 9 = .ok (.aload_n 0, 1) := by decide +kernel
theorem dX4_beginMost_10 : decode cX4_beginMost 10 = .ok (.getfield 18, 3) := by decide +kernel
theorem dX4_beginMost_13 : decode cX4_beginMost 13 = .ok (.invokevirtual 46, 3) := by decide +kernel
theorem dX4_beginMost_16 : decode cX4_beginMost 16 = .ok (.goto 4, 3) := by decide +kernel
theorem dX4_beginMost_19 : decode cX4_beginMost 19 = .ok (.iconst 0, 1) := by decide +kernel
theorem dX4_beginMost_20 : decode cX4_beginMost 20 = .ok (.putfield 32, 3) := by decide +kernel
theorem dX4_beginMost_23 : decode cX4_beginMost 23 = .ok (.return_, 1) := by decide +kernel
set_option maxRecDepth 20000 in
theorem ggX4_act_X4_splay : GoodIn wsX4_act wsX4_splay := goodIn_r _ [7, 2, 8, 9, 10, 11, 12, 13, 14, 15, 16, 17, 18, 19, 20, 21, 22, 23, 24, 25, 26, 27, 28, 29, 30, 31, 32, 33, 34, 35, 36, 37, 38, 39, 40, 41, 42, 43, 44, 45, 46, 47, 48, 49, 50, 51, 52, 53, 54, 55, 56, 61, 62, 63, 64, 65, 66, 67, 68, 69, 70, 71, 72] (by decide +kernel) (by decide +kernel)
set_option maxRecDepth 20000 in
theorem gX4_act_X4_splay : GoodIn wsX4_act (wsV RX4 107 RX4 yX4_splay wsX4_splay) := goodIn_app (goodIn_of _ (by decide +kernel)) ggX4_act_X4_splay
set_option maxRecDepth 20000 in
theorem ggX4_act_X3_turn : GoodIn wsX4_act wsX3_turn := goodIn_r _ [20, 21, 22, 9, 10, 11, 12, 13, 14, 15, 16, 23, 24, 25, 26, 27, 28, 29, 30, 31, 32, 33, 34, 35, 36, 37, 38, 39, 40, 41, 42, 43, 44, 45, 46, 47, 48, 49, 50, 51, 52, 53, 54, 55, 56, 66, 67, 68, 69, 70, 71, 72] (by decide +kernel) (by decide +kernel)
set_option maxRecDepth 20000 in
theorem gX4_act_X3_turn : GoodIn wsX4_act (wsV RX4 110 RX3 yX3_turn wsX3_turn) := goodIn_app (goodIn_of _ (by decide +kernel)) ggX4_act_X3_turn
set_option maxRecDepth 20000 in
theorem ggX4_act_X4_raiseToRoot : GoodIn wsX4_act wsX4_raiseToRoot := goodIn_r _ [60, 2, 8, 9, 10, 11, 12, 13, 14, 15, 16, 17, 18, 19, 20, 21, 22, 23, 24, 25, 26, 27, 28, 29, 30, 31, 32, 33, 34, 35, 36, 37, 38, 39, 40, 41, 42, 43, 44, 45, 46, 47, 48, 49, 50, 51, 52, 53, 54, 55, 56, 61, 62, 63, 64, 65, 66, 67, 68, 69, 70, 71, 72] (by decide +kernel) (by decide +kernel)
set_option maxRecDepth 20000 in
theorem gX4_act_X4_raiseToRoot : GoodIn wsX4_act (wsV RX4 101 RX4 yX4_raiseToRoot wsX4_raiseToRoot) := goodIn_app (goodIn_of _ (by decide +kernel)) ggX4_act_X4_raiseToRoot
theorem dX4_act_0 : decode cX4_act 0 = .ok (.iload_n 1, 1) := by decide +kernel
theorem dX4_act_1 : decode cX4_act 1 = .ok (.iconst (-1), 1) := by decide +kernel
theorem dX4_act_2 : decode cX4_act 2 = .ok (.if_icmp .ne 4, 3) := by decide +kernel
theorem dX4_act_5 : decode cX4_act 5 = .ok (.return_, 1) := by decide +kernel
theorem dX4_act_6 : decode cX4_act 6 = .ok (.aload_n 0, 1) := by decide +kernel
theorem dX4_act_7 : decode cX4_act 7 = .ok (.getfield 9, 3) := by decide +kernel
theorem dX4_act_10 : decode cX4_act 10 = .ok (.tableswitch 53 1 3 #[26, 34, 45], 26) := by decide +kernel
theorem dX4_act_36 : decode cX4_act 36 = .ok (.aload_n 0, 1) := by decide +kernel
theorem dX4_act_37 : decode cX4_act 37 = .ok (.iload_n 1, 1) := by decide +kernel
theorem dX4_act_38 : decode cX4_act 38 = .ok (.invokevirtual 107, 3) := by decide +kernel
theorem dX4_act_41 : decode cX4_act 41 = .ok (.goto 22, 3) := by decide +kernel
theorem dX4_act_44 : decode cX4_act 44 = .ok (.aload_n 0, 1) := by decide +kernel
theorem dX4_act_45 : decode cX4_act 45 = .ok (.getfield 18, 3) := by decide +kernel
theorem dX4_act_48 : decode cX4_act 48 = .ok (.iload_n 1, 1) := by decide +kernel
theorem dX4_act_49 : decode cX4_act 49 = .ok (.invokevirtual 110, 3) := by decide +kernel
theorem dX4_act_52 : decode cX4_act 52 = .ok (.goto 11, 3) := by decide +kernel
theorem dX4_act_55 : decode cX4_act 55 = .ok (.aload_n 0, 1) := by decide +kernel
theorem dX4_act_56 : decode cX4_act 56 = .ok (.iload_n 1, 1) := by decide +kernel
theorem dX4_act_57 : decode cX4_act 57 = .ok (.invokevirtual 101, 3) := by decide +kernel
theorem dX4_act_60 : decode cX4_act 60 = .ok (.goto 3, 3) := by decide +kernel
theorem dX4_act_63 : decode cX4_act 63 = .ok (.return_, 1) := by decide +kernel
set_option maxRecDepth 20000 in
theorem ggX4_splay_X3_upOf : GoodIn wsX4_splay wsX3_upOf := goodIn_r _ [6, 7, 8, 9, 10, 56, 57, 58, 59, 60, 61, 62] (by decide +kernel) (by decide +kernel)
set_option maxRecDepth 20000 in
theorem gX4_splay_X3_upOf : GoodIn wsX4_splay (wsV RX4 79 RX3 yX3_upOf wsX3_upOf) := goodIn_app (goodIn_of _ (by decide +kernel)) ggX4_splay_X3_upOf
set_option maxRecDepth 20000 in
theorem ggX4_splay_X3_turn : GoodIn wsX4_splay wsX3_turn := goodIn_r _ [14, 15, 16, 3, 4, 5, 6, 7, 8, 9, 10, 17, 18, 19, 20, 21, 22, 23, 24, 25, 26, 27, 28, 29, 30, 31, 32, 33, 34, 35, 36, 37, 38, 39, 40, 41, 42, 43, 44, 45, 46, 47, 48, 49, 50, 56, 57, 58, 59, 60, 61, 62] (by decide +kernel) (by decide +kernel)
set_option maxRecDepth 20000 in
theorem gX4_splay_X3_turn : GoodIn wsX4_splay (wsV RX4 110 RX3 yX3_turn wsX3_turn) := goodIn_app (goodIn_of _ (by decide +kernel)) ggX4_splay_X3_turn
theorem dX4_splay_0 : decode cX4_splay 0 = .ok (.iconst 0, 1) := by decide +kernel
theorem dX4_splay_1 : decode cX4_splay 1 = .ok (.istore_n 2, 1) := by decide +kernel
theorem dX4_splay_2 : decode cX4_splay 2 = .ok (.iload_n 2, 1) := by decide +kernel
theorem dX4_splay_3 : decode cX4_splay 3 = .ok (.bipush 64, 2) := by decide +kernel
theorem dX4_splay_5 : decode cX4_splay 5 = .ok (.if_icmp .ge 116, 3) := by decide +kernel
theorem dX4_splay_8 : decode cX4_splay 8 = .ok (.aload_n 0, 1) := by decide +kernel
theorem dX4_splay_9 : decode cX4_splay 9 = .ok (.getfield 18, 3) := by decide +kernel
theorem dX4_splay_12 : decode cX4_splay 12 = .ok (.iload_n 1, 1) := by decide +kernel
theorem dX4_splay_13 : decode cX4_splay 13 = .ok (.invokevirtual 79, 3) := by decide +kernel
theorem dX4_splay_16 : decode cX4_splay 16 = .ok (.iconst (-1), 1) := by decide +kernel
theorem dX4_splay_17 : decode cX4_splay 17 = .ok (.if_icmp .eq 104, 3) := by decide +kernel
theorem dX4_splay_20 : decode cX4_splay 20 = .ok (.aload_n 0, 1) := by decide +kernel
theorem dX4_splay_21 : decode cX4_splay 21 = .ok (.getfield 18, 3) := by decide +kernel
theorem dX4_splay_24 : decode cX4_splay 24 = .ok (.iload_n 1, 1) := by decide +kernel
theorem dX4_splay_25 : decode cX4_splay 25 = .ok (.invokevirtual 79, 3) := by decide +kernel
theorem dX4_splay_28 : decode cX4_splay 28 = .ok (.istore_n 3, 1) := by decide +kernel
theorem dX4_splay_29 : decode cX4_splay 29 = .ok (.aload_n 0, 1) := by decide +kernel
theorem dX4_splay_30 : decode cX4_splay 30 = .ok (.getfield 18, 3) := by decide +kernel
theorem dX4_splay_33 : decode cX4_splay 33 = .ok (.iload_n 3, 1) := by decide +kernel
theorem dX4_splay_34 : decode cX4_splay 34 = .ok (.invokevirtual 79, 3) := by decide +kernel
theorem dX4_splay_37 : decode cX4_splay 37 = .ok (.istore 4, 2) := by decide +kernel
theorem dX4_splay_39 : decode cX4_splay 39 = .ok (.iload 4, 2) := by decide +kernel
theorem dX4_splay_41 : decode cX4_splay 41 = .ok (.iconst (-1), 1) := by decide +kernel
theorem dX4_splay_42 : decode cX4_splay 42 = .ok (.if_icmp .ne 14, 3) := by decide +kernel
theorem dX4_splay_45 : decode cX4_splay 45 = .ok (.aload_n 0, 1) := by decide +kernel
theorem dX4_splay_46 : decode cX4_splay 46 = .ok (.getfield 18, 3) := by decide +kernel
theorem dX4_splay_49 : decode cX4_splay 49 = .ok (.iload_n 1, 1) := by decide +kernel
theorem dX4_splay_50 : decode cX4_splay 50 = .ok (.invokevirtual 110, 3) := by decide +kernel
theorem dX4_splay_53 : decode cX4_splay 53 = .ok (.goto 62, 3) := by decide +kernel
theorem dX4_splay_56 : decode cX4_splay 56 = .ok (.iload_n 1, 1) := by decide +kernel
theorem dX4_splay_57 : decode cX4_splay 57 = .ok (.iload_n 3, 1) := by decide +kernel
theorem dX4_splay_58 : decode cX4_splay 58 = .ok (.if_icmp .ge 7, 3) := by decide +kernel
theorem dX4_splay_61 : decode cX4_splay 61 = .ok (.iconst 1, 1) := by decide +kernel
theorem dX4_splay_62 : decode cX4_splay 62 = .ok (.goto 4, 3) := by decide +kernel
theorem dX4_splay_65 : decode cX4_splay 65 = .ok (.iconst 0, 1) := by decide +kernel
theorem dX4_splay_66 : decode cX4_splay 66 = .ok (.iload_n 3, 1) := by decide +kernel
theorem dX4_splay_67 : decode cX4_splay 67 = .ok (.iload 4, 2) := by decide +kernel
theorem dX4_splay_69 : decode cX4_splay 69 = .ok (.if_icmp .ge 7, 3) := by decide +kernel
theorem dX4_splay_72 : decode cX4_splay 72 = .ok (.iconst 1, 1) := by decide +kernel
theorem dX4_splay_73 : decode cX4_splay 73 = .ok (.goto 4, 3) := by decide +kernel
theorem dX4_splay_76 : decode cX4_splay 76 = .ok (.iconst 0, 1) := by decide +kernel
theorem dX4_splay_77 : decode cX4_splay 77 = .ok (.if_icmp .ne 22, 3) := by decide +kernel
theorem dX4_splay_80 : decode cX4_splay 80 = .ok (.aload_n 0, 1) := by decide +kernel
theorem dX4_splay_81 : decode cX4_splay 81 = .ok (.getfield 18, 3) := by decide +kernel
theorem dX4_splay_84 : decode cX4_splay 84 = .ok (.iload_n 3, 1) := by decide +kernel
theorem dX4_splay_85 : decode cX4_splay 85 = .ok (.invokevirtual 110, 3) := by decide +kernel
theorem dX4_splay_88 : decode cX4_splay 88 = .ok (.aload_n 0, 1) := by decide +kernel
theorem dX4_splay_89 : decode cX4_splay 89 = .ok (.getfield 18, 3) := by decide +kernel
theorem dX4_splay_92 : decode cX4_splay 92 = .ok (.iload_n 1, 1) := by decide +kernel
theorem dX4_splay_93 : decode cX4_splay 93 = .ok (.invokevirtual 110, 3) := by decide +kernel
theorem dX4_splay_96 : decode cX4_splay 96 = .ok (.goto 19, 3) := by decide +kernel
theorem dX4_splay_99 : decode cX4_splay 99 = .ok (.aload_n 0, 1) := by decide +kernel
theorem dX4_splay_100 : decode cX4_splay 100 = .ok (.getfield 18, 3) := by decide +kernel
theorem dX4_splay_103 : decode cX4_splay 103 = .ok (.iload_n 1, 1) := by decide +kernel
theorem dX4_splay_104 : decode cX4_splay 104 = .ok (.invokevirtual 110, 3) := by decide +kernel
theorem dX4_splay_107 : decode cX4_splay 107 = .ok (.aload_n 0, 1) := by decide +kernel
theorem dX4_splay_108 : decode cX4_splay 108 = .ok (.getfield 18, 3) := by decide +kernel
theorem dX4_splay_111 : decode cX4_splay 111 = .ok (.iload_n 1, 1) := by decide +kernel
theorem dX4_splay_112 : decode cX4_splay 112 = .ok (.invokevirtual 110, 3) := by decide +kernel
theorem dX4_splay_115 : decode cX4_splay 115 = .ok (.iinc 2 1, 3) := by decide +kernel
theorem dX4_splay_118 : decode cX4_splay 118 = .ok (.goto (-116), 3) := by decide +kernel
theorem dX4_splay_121 : decode cX4_splay 121 = .ok (.return_, 1) := by decide +kernel
set_option maxRecDepth 20000 in
theorem ggX4_raiseToRoot_X3_upOf : GoodIn wsX4_raiseToRoot wsX3_upOf := goodIn_r _ [6, 7, 8, 9, 10, 56, 57, 58, 59, 60, 61, 62] (by decide +kernel) (by decide +kernel)
set_option maxRecDepth 20000 in
theorem gX4_raiseToRoot_X3_upOf : GoodIn wsX4_raiseToRoot (wsV RX4 79 RX3 yX3_upOf wsX3_upOf) := goodIn_app (goodIn_of _ (by decide +kernel)) ggX4_raiseToRoot_X3_upOf
set_option maxRecDepth 20000 in
theorem ggX4_raiseToRoot_X3_turn : GoodIn wsX4_raiseToRoot wsX3_turn := goodIn_r _ [14, 15, 16, 3, 4, 5, 6, 7, 8, 9, 10, 17, 18, 19, 20, 21, 22, 23, 24, 25, 26, 27, 28, 29, 30, 31, 32, 33, 34, 35, 36, 37, 38, 39, 40, 41, 42, 43, 44, 45, 46, 47, 48, 49, 50, 56, 57, 58, 59, 60, 61, 62] (by decide +kernel) (by decide +kernel)
set_option maxRecDepth 20000 in
theorem gX4_raiseToRoot_X3_turn : GoodIn wsX4_raiseToRoot (wsV RX4 110 RX3 yX3_turn wsX3_turn) := goodIn_app (goodIn_of _ (by decide +kernel)) ggX4_raiseToRoot_X3_turn
theorem dX4_raiseToRoot_0 : decode cX4_raiseToRoot 0 = .ok (.iconst 0, 1) := by decide +kernel
theorem dX4_raiseToRoot_1 : decode cX4_raiseToRoot 1 = .ok (.istore_n 2, 1) := by decide +kernel
theorem dX4_raiseToRoot_2 : decode cX4_raiseToRoot 2 = .ok (.iload_n 2, 1) := by decide +kernel
theorem dX4_raiseToRoot_3 : decode cX4_raiseToRoot 3 = .ok (.bipush 64, 2) := by decide +kernel
theorem dX4_raiseToRoot_5 : decode cX4_raiseToRoot 5 = .ok (.if_icmp .ge 29, 3) := by decide +kernel
theorem dX4_raiseToRoot_8 : decode cX4_raiseToRoot 8 = .ok (.aload_n 0, 1) := by decide +kernel
theorem dX4_raiseToRoot_9 : decode cX4_raiseToRoot 9 = .ok (.getfield 18, 3) := by decide +kernel
theorem dX4_raiseToRoot_12 : decode cX4_raiseToRoot 12 = .ok (.iload_n 1, 1) := by decide +kernel
theorem dX4_raiseToRoot_13 : decode cX4_raiseToRoot 13 = .ok (.invokevirtual 79, 3) := by decide +kernel
theorem dX4_raiseToRoot_16 : decode cX4_raiseToRoot 16 = .ok (.iconst (-1), 1) := by decide +kernel
theorem dX4_raiseToRoot_17 : decode cX4_raiseToRoot 17 = .ok (.if_icmp .eq 17, 3) := by decide +kernel
theorem dX4_raiseToRoot_20 : decode cX4_raiseToRoot 20 = .ok (.aload_n 0, 1) := by decide +kernel
theorem dX4_raiseToRoot_21 : decode cX4_raiseToRoot 21 = .ok (.getfield 18, 3) := by decide +kernel
theorem dX4_raiseToRoot_24 : decode cX4_raiseToRoot 24 = .ok (.iload_n 1, 1) := by decide +kernel
theorem dX4_raiseToRoot_25 : decode cX4_raiseToRoot 25 = .ok (.invokevirtual 110, 3) := by decide +kernel
theorem dX4_raiseToRoot_28 : decode cX4_raiseToRoot 28 = .ok (.iinc 2 1, 3) := by decide +kernel
theorem dX4_raiseToRoot_31 : decode cX4_raiseToRoot 31 = .ok (.goto (-29), 3) := by decide +kernel
theorem dX4_raiseToRoot_34 : decode cX4_raiseToRoot 34 = .ok (.return_, 1) := by decide +kernel
set_option maxRecDepth 20000 in
theorem ggX4_riseByWeight_X3_upOf : GoodIn wsX4_riseByWeight wsX3_upOf := goodIn_r _ [6, 7, 8, 9, 10, 58, 59, 60, 61, 62, 63, 64] (by decide +kernel) (by decide +kernel)
set_option maxRecDepth 20000 in
theorem gX4_riseByWeight_X3_upOf : GoodIn wsX4_riseByWeight (wsV RX4 79 RX3 yX3_upOf wsX3_upOf) := goodIn_app (goodIn_of _ (by decide +kernel)) ggX4_riseByWeight_X3_upOf
set_option maxRecDepth 20000 in
theorem ggX4_riseByWeight_X5_weight : GoodIn wsX4_riseByWeight wsX5_weight := goodIn_r _ [12] (by decide +kernel) (by decide +kernel)
set_option maxRecDepth 20000 in
theorem gX4_riseByWeight_X5_weight_n113 : GoodIn wsX4_riseByWeight (wsX5_weight) := ggX4_riseByWeight_X5_weight
set_option maxRecDepth 20000 in
theorem ggX4_riseByWeight_X3_turn : GoodIn wsX4_riseByWeight wsX3_turn := goodIn_r _ [16, 17, 18, 3, 4, 5, 6, 7, 8, 9, 10, 19, 20, 21, 22, 23, 24, 25, 26, 27, 28, 29, 30, 31, 32, 33, 34, 35, 36, 37, 38, 39, 40, 41, 42, 43, 44, 45, 46, 47, 48, 49, 50, 51, 52, 58, 59, 60, 61, 62, 63, 64] (by decide +kernel) (by decide +kernel)
set_option maxRecDepth 20000 in
theorem gX4_riseByWeight_X3_turn : GoodIn wsX4_riseByWeight (wsV RX4 110 RX3 yX3_turn wsX3_turn) := goodIn_app (goodIn_of _ (by decide +kernel)) ggX4_riseByWeight_X3_turn
theorem dX4_riseByWeight_0 : decode cX4_riseByWeight 0 = .ok (.iconst 0, 1) := by decide +kernel
theorem dX4_riseByWeight_1 : decode cX4_riseByWeight 1 = .ok (.istore_n 2, 1) := by decide +kernel
theorem dX4_riseByWeight_2 : decode cX4_riseByWeight 2 = .ok (.iload_n 2, 1) := by decide +kernel
theorem dX4_riseByWeight_3 : decode cX4_riseByWeight 3 = .ok (.bipush 64, 2) := by decide +kernel
theorem dX4_riseByWeight_5 : decode cX4_riseByWeight 5 = .ok (.if_icmp .ge 43, 3) := by decide +kernel
theorem dX4_riseByWeight_8 : decode cX4_riseByWeight 8 = .ok (.aload_n 0, 1) := by decide +kernel
theorem dX4_riseByWeight_9 : decode cX4_riseByWeight 9 = .ok (.getfield 18, 3) := by decide +kernel
theorem dX4_riseByWeight_12 : decode cX4_riseByWeight 12 = .ok (.iload_n 1, 1) := by decide +kernel
theorem dX4_riseByWeight_13 : decode cX4_riseByWeight 13 = .ok (.invokevirtual 79, 3) := by decide +kernel
theorem dX4_riseByWeight_16 : decode cX4_riseByWeight 16 = .ok (.istore_n 3, 1) := by decide +kernel
theorem dX4_riseByWeight_17 : decode cX4_riseByWeight 17 = .ok (.iload_n 3, 1) := by decide +kernel
theorem dX4_riseByWeight_18 : decode cX4_riseByWeight 18 = .ok (.iconst (-1), 1) := by decide +kernel
theorem dX4_riseByWeight_19 : decode cX4_riseByWeight 19 = .ok (.if_icmp .eq 14, 3) := by decide +kernel
theorem dX4_riseByWeight_22 : decode cX4_riseByWeight 22 = .ok (.iload_n 1, 1) := by decide +kernel
theorem dX4_riseByWeight_23 : decode cX4_riseByWeight 23 = .ok (.invokestatic 113, 3) := by decide +kernel
theorem dX4_riseByWeight_26 : decode cX4_riseByWeight 26 = .ok (.iload_n 3, 1) := by decide +kernel
theorem dX4_riseByWeight_27 : decode cX4_riseByWeight 27 = .ok (.invokestatic 113, 3) := by decide +kernel
theorem dX4_riseByWeight_30 : decode cX4_riseByWeight 30 = .ok (.if_icmp .gt 4, 3) := by decide +kernel
theorem dX4_riseByWeight_33 : decode cX4_riseByWeight 33 = .ok (.return_, 1) := by decide +kernel
theorem dX4_riseByWeight_34 : decode cX4_riseByWeight 34 = .ok (.aload_n 0, 1) := by decide +kernel
theorem dX4_riseByWeight_35 : decode cX4_riseByWeight 35 = .ok (.getfield 18, 3) := by decide +kernel
theorem dX4_riseByWeight_38 : decode cX4_riseByWeight 38 = .ok (.iload_n 1, 1) := by decide +kernel
theorem dX4_riseByWeight_39 : decode cX4_riseByWeight 39 = .ok (.invokevirtual 110, 3) := by decide +kernel
theorem dX4_riseByWeight_42 : decode cX4_riseByWeight 42 = .ok (.iinc 2 1, 3) := by decide +kernel
theorem dX4_riseByWeight_45 : decode cX4_riseByWeight 45 = .ok (.goto (-43), 3) := by decide +kernel
theorem dX4_riseByWeight_48 : decode cX4_riseByWeight 48 = .ok (.return_, 1) := by decide +kernel
set_option maxRecDepth 20000 in
theorem ggX4_lopsidedAbove_X3_upOf : GoodIn wsX4_lopsidedAbove wsX3_upOf := goodIn_r _ [6, 7, 8, 9, 10, 40, 41, 42, 43, 44, 45, 46] (by decide +kernel) (by decide +kernel)
set_option maxRecDepth 20000 in
theorem gX4_lopsidedAbove_X3_upOf : GoodIn wsX4_lopsidedAbove (wsV RX4 79 RX3 yX3_upOf wsX3_upOf) := goodIn_app (goodIn_of _ (by decide +kernel)) ggX4_lopsidedAbove_X3_upOf
set_option maxRecDepth 20000 in
theorem ggX4_lopsidedAbove_X4_isLopsided : GoodIn wsX4_lopsidedAbove wsX4_isLopsided := goodIn_r _ [15, 1, 16, 17, 18, 19, 20, 21, 22, 5, 23, 24, 8, 9, 10, 25, 26, 27, 28, 29, 30, 31, 32, 33, 34, 35, 36, 37, 38, 39, 40, 41, 42, 43, 44, 45, 46] (by decide +kernel) (by decide +kernel)
set_option maxRecDepth 20000 in
theorem gX4_lopsidedAbove_X4_isLopsided : GoodIn wsX4_lopsidedAbove (wsV RX4 116 RX4 yX4_isLopsided wsX4_isLopsided) := goodIn_app (goodIn_of _ (by decide +kernel)) ggX4_lopsidedAbove_X4_isLopsided
theorem dX4_lopsidedAbove_0 : decode cX4_lopsidedAbove 0 = .ok (.aload_n 0, 1) := by decide +kernel
theorem dX4_lopsidedAbove_1 : decode cX4_lopsidedAbove 1 = .ok (.getfield 18, 3) := by decide +kernel
theorem dX4_lopsidedAbove_4 : decode cX4_lopsidedAbove 4 = .ok (.iload_n 1, 1) := by decide +kernel
theorem dX4_lopsidedAbove_5 : decode cX4_lopsidedAbove 5 = .ok (.invokevirtual 79, 3) := by decide +kernel
theorem dX4_lopsidedAbove_8 : decode cX4_lopsidedAbove 8 = .ok (.istore_n 2, 1) := by decide +kernel
theorem dX4_lopsidedAbove_9 : decode cX4_lopsidedAbove 9 = .ok (.iconst 0, 1) := by decide +kernel
theorem dX4_lopsidedAbove_10 : decode cX4_lopsidedAbove 10 = .ok (.istore_n 3, 1) := by decide +kernel
theorem dX4_lopsidedAbove_11 : decode cX4_lopsidedAbove 11 = .ok (.iload_n 3, 1) := by decide +kernel
theorem dX4_lopsidedAbove_12 : decode cX4_lopsidedAbove 12 = .ok (.bipush 64, 2) := by decide +kernel
theorem dX4_lopsidedAbove_14 : decode cX4_lopsidedAbove 14 = .ok (.if_icmp .ge 33, 3) := by decide +kernel
theorem dX4_lopsidedAbove_17 : decode cX4_lopsidedAbove 17 = .ok (.iload_n 2, 1) := by decide +kernel
theorem dX4_lopsidedAbove_18 : decode cX4_lopsidedAbove 18 = .ok (.iconst (-1), 1) := by decide +kernel
theorem dX4_lopsidedAbove_19 : decode cX4_lopsidedAbove 19 = .ok (.if_icmp .eq 28, 3) := by decide +kernel
theorem dX4_lopsidedAbove_22 : decode cX4_lopsidedAbove 22 = .ok (.aload_n 0, 1) := by decide +kernel
theorem dX4_lopsidedAbove_23 : decode cX4_lopsidedAbove 23 = .ok (.iload_n 2, 1) := by decide +kernel
theorem dX4_lopsidedAbove_24 : decode cX4_lopsidedAbove 24 = .ok (.invokevirtual 116, 3) := by decide +kernel
theorem dX4_lopsidedAbove_27 : decode cX4_lopsidedAbove 27 = .ok (.ifCond .eq 5, 3) := by decide +kernel
theorem dX4_lopsidedAbove_30 : decode cX4_lopsidedAbove 30 = .ok (.iload_n 2, 1) := by decide +kernel
theorem dX4_lopsidedAbove_31 : decode cX4_lopsidedAbove 31 = .ok (.ireturn, 1) := by decide +kernel
theorem dX4_lopsidedAbove_32 : decode cX4_lopsidedAbove 32 = .ok (.aload_n 0, 1) := by decide +kernel
theorem dX4_lopsidedAbove_33 : decode cX4_lopsidedAbove 33 = .ok (.getfield 18, 3) := by decide +kernel
theorem dX4_lopsidedAbove_36 : decode cX4_lopsidedAbove 36 = .ok (.iload_n 2, 1) := by decide +kernel
theorem dX4_lopsidedAbove_37 : decode cX4_lopsidedAbove 37 = .ok (.invokevirtual 79, 3) := by decide +kernel
theorem dX4_lopsidedAbove_40 : decode cX4_lopsidedAbove 40 = .ok (.istore_n 2, 1) := by decide +kernel
theorem dX4_lopsidedAbove_41 : decode cX4_lopsidedAbove 41 = .ok (.iinc 3 1, 3) := by decide +kernel
theorem dX4_lopsidedAbove_44 : decode cX4_lopsidedAbove 44 = .ok (.goto (-33), 3) := by decide +kernel
theorem dX4_lopsidedAbove_47 : decode cX4_lopsidedAbove 47 = .ok (.iconst (-1), 1) := by decide +kernel
theorem dX4_lopsidedAbove_48 : decode cX4_lopsidedAbove 48 = .ok (.ireturn, 1) := by decide +kernel
set_option maxRecDepth 20000 in
theorem ggX4_evenOut_X3_makeEven : GoodIn wsX4_evenOut wsX3_makeEven := goodIn_r _ [7, 8, 9, 10, 11, 6, 12, 13, 14, 15, 16, 17, 18, 19, 20, 21, 22, 23, 24, 25, 26, 27, 28, 29, 30, 31, 32, 33, 34, 35, 36, 37, 38, 39, 40, 41, 42, 43, 44, 45, 46, 47, 48, 49, 50, 51, 52, 53, 54, 55, 56, 57, 58, 59, 60, 61, 62, 63, 64, 65, 82, 83, 84, 85, 86, 87, 88] (by decide +kernel) (by decide +kernel)
set_option maxRecDepth 20000 in
theorem gX4_evenOut_X3_makeEven : GoodIn wsX4_evenOut (wsV RX4 120 RX3 yX3_makeEven wsX3_makeEven) := goodIn_app (goodIn_of _ (by decide +kernel)) ggX4_evenOut_X3_makeEven
set_option maxRecDepth 20000 in
theorem ggX4_evenOut_X4_beginMost : GoodIn wsX4_evenOut wsX4_beginMost := goodIn_r _ [70, 71, 1, 72, 73, 74, 75, 6, 76, 65, 39, 40, 41, 42, 43, 77, 78, 79, 80, 81, 82, 83, 84, 85, 86, 87, 88] (by decide +kernel) (by decide +kernel)
set_option maxRecDepth 20000 in
theorem gX4_evenOut_X4_beginMost : GoodIn wsX4_evenOut (wsV RX4 123 RX4 yX4_beginMost wsX4_beginMost) := goodIn_app (goodIn_of _ (by decide +kernel)) ggX4_evenOut_X4_beginMost
theorem dX4_evenOut_0 : decode cX4_evenOut 0 = .ok (.iload_n 1, 1) := by decide +kernel
theorem dX4_evenOut_1 : decode cX4_evenOut 1 = .ok (.aload_n 0, 1) := by decide +kernel
theorem dX4_evenOut_2 : decode cX4_evenOut 2 = .ok (.getfield 18, 3) := by decide +kernel
theorem dX4_evenOut_5 : decode cX4_evenOut 5 = .ok (.getfield 85, 3) := by decide +kernel
theorem dX4_evenOut_8 : decode cX4_evenOut 8 = .ok (.if_icmp .ne 7, 3) := by decide +kernel
theorem dX4_evenOut_11 : decode cX4_evenOut 11 = .ok (.iconst 1, 1) := by decide +kernel
theorem dX4_evenOut_12 : decode cX4_evenOut 12 = .ok (.goto 4, 3) := by decide +kernel
theorem dX4_evenOut_15 : decode cX4_evenOut 15 = .ok (.iconst 0, 1) := by decide +kernel
theorem dX4_evenOut_16 : decode cX4_evenOut 16 = .ok (.istore_n 2, 1) := by decide +kernel
theorem dX4_evenOut_17 : decode cX4_evenOut 17 = .ok (.aload_n 0, 1) := by decide +kernel
theorem dX4_evenOut_18 : decode cX4_evenOut 18 = .ok (.getfield 18, 3) := by decide +kernel
theorem dX4_evenOut_21 : decode cX4_evenOut 21 = .ok (.iload_n 1, 1) := by decide +kernel
theorem dX4_evenOut_22 : decode cX4_evenOut 22 = .ok (.invokevirtual 120, 3) := by decide +kernel
theorem dX4_evenOut_25 : decode cX4_evenOut 25 = .ok (.iload_n 2, 1) := by decide +kernel
theorem dX4_evenOut_26 : decode cX4_evenOut 26 = .ok (.ifCond .eq 7, 3) := by decide +kernel
theorem dX4_evenOut_29 : decode cX4_evenOut 29 = .ok (.aload_n 0, 1) := by decide +kernel
theorem dX4_evenOut_30 : decode cX4_evenOut 30 = .ok (.invokevirtual 123, 3) := by decide +kernel
theorem dX4_evenOut_33 : decode cX4_evenOut 33 = .ok (.return_, 1) := by decide +kernel
theorem dX4_isTooDeep_0 : decode cX4_isTooDeep 0 = .ok (.lconst 1, 1) := by decide +kernel
theorem dX4_isTooDeep_1 : decode cX4_isTooDeep 1 = .ok (.lstore_n 2, 1) := by decide +kernel
theorem dX4_isTooDeep_2 : decode cX4_isTooDeep 2 = .ok (.iload_n 1, 1) := by decide +kernel
theorem dX4_isTooDeep_3 : decode cX4_isTooDeep 3 = .ok (.i2l, 1) := by decide +kernel
theorem dX4_isTooDeep_4 : decode cX4_isTooDeep 4 = .ok (.lstore 4, 2) := by decide +kernel
theorem dX4_isTooDeep_6 : decode cX4_isTooDeep 6 = .ok (.iconst 1, 1) := by decide +kernel
theorem dX4_isTooDeep_7 : decode cX4_isTooDeep 7 = .ok (.istore 6, 2) := by decide +kernel
theorem dX4_isTooDeep_9 : decode cX4_isTooDeep 9 = .ok (.iload 6, 2) := by decide +kernel
theorem dX4_isTooDeep_11 : decode cX4_isTooDeep 11 = .ok (.iload_n 0, 1) := by decide +kernel
theorem dX4_isTooDeep_12 : decode cX4_isTooDeep 12 = .ok (.if_icmp .ge 39, 3) := by decide +kernel
theorem dX4_isTooDeep_15 : decode cX4_isTooDeep 15 = .ok (.iload 6, 2) := by decide +kernel
theorem dX4_isTooDeep_17 : decode cX4_isTooDeep 17 = .ok (.bipush 64, 2) := by decide +kernel
theorem dX4_isTooDeep_19 : decode cX4_isTooDeep 19 = .ok (.if_icmp .ge 32, 3) := by decide +kernel
theorem dX4_isTooDeep_22 : decode cX4_isTooDeep 22 = .ok (.lload_n 2, 1) := by decide +kernel
theorem dX4_isTooDeep_23 : decode cX4_isTooDeep 23 = .ok (.ldc2_w 126, 3) := by decide +kernel
theorem dX4_isTooDeep_26 : decode cX4_isTooDeep 26 = .ok (.lmul, 1) := by decide +kernel
theorem dX4_isTooDeep_27 : decode cX4_isTooDeep 27 = .ok (.lstore_n 2, 1) := by decide +kernel
theorem dX4_isTooDeep_28 : decode cX4_isTooDeep 28 = .ok (.lload 4, 2) := by decide +kernel
theorem dX4_isTooDeep_30 : decode cX4_isTooDeep 30 = .ok (.ldc2_w 128, 3) := by decide +kernel
theorem dX4_isTooDeep_33 : decode cX4_isTooDeep 33 = .ok (.lmul, 1) := by decide +kernel
theorem dX4_isTooDeep_34 : decode cX4_isTooDeep 34 = .ok (.lstore 4, 2) := by decide +kernel
theorem dX4_isTooDeep_36 : decode cX4_isTooDeep 36 = .ok (.lload_n 2, 1) := by decide +kernel
theorem dX4_isTooDeep_37 : decode cX4_isTooDeep 37 = .ok (.lload 4, 2) := by decide +kernel
theorem dX4_isTooDeep_39 : decode cX4_isTooDeep 39 = .ok (.lcmp, 1) := by decide +kernel
theorem dX4_isTooDeep_40 : decode cX4_isTooDeep 40 = .ok (.ifCond .le 5, 3) := by decide +kernel
theorem dX4_isTooDeep_43 : decode cX4_isTooDeep 43 = .ok (.iconst 1, 1) := by decide +kernel
theorem dX4_isTooDeep_44 : decode cX4_isTooDeep 44 = .ok (.ireturn, 1) := by decide +kernel
theorem dX4_isTooDeep_45 : decode cX4_isTooDeep 45 = .ok (.iinc 6 1, 3) := by decide +kernel
theorem dX4_isTooDeep_48 : decode cX4_isTooDeep 48 = .ok (.goto (-39), 3) := by decide +kernel
theorem dX4_isTooDeep_51 : decode cX4_isTooDeep 51 = .ok (.iconst 0, 1) := by decide +kernel
theorem dX4_isTooDeep_52 : decode cX4_isTooDeep 52 = .ok (.ireturn, 1) := by decide +kernel
set_option maxRecDepth 20000 in
theorem ggX4_isLopsided_X3_leftOf : GoodIn wsX4_isLopsided wsX3_leftOf := goodIn_r _ [10, 11, 12, 13, 14, 30, 31, 32, 33, 34, 35, 36] (by decide +kernel) (by decide +kernel)
set_option maxRecDepth 20000 in
theorem gX4_isLopsided_X3_leftOf : GoodIn wsX4_isLopsided (wsV RX4 130 RX3 yX3_leftOf wsX3_leftOf) := goodIn_app (goodIn_of _ (by decide +kernel)) ggX4_isLopsided_X3_leftOf
set_option maxRecDepth 20000 in
theorem ggX4_isLopsided_X3_sizeOf : GoodIn wsX4_isLopsided wsX3_sizeOf := goodIn_r _ [18, 19, 30, 31, 32, 33, 34, 35, 36] (by decide +kernel) (by decide +kernel)
set_option maxRecDepth 20000 in
theorem gX4_isLopsided_X3_sizeOf : GoodIn wsX4_isLopsided (wsV RX4 133 RX3 yX3_sizeOf wsX3_sizeOf) := goodIn_app (goodIn_of _ (by decide +kernel)) ggX4_isLopsided_X3_sizeOf
set_option maxRecDepth 20000 in
theorem ggX4_isLopsided_X3_rightOf : GoodIn wsX4_isLopsided wsX3_rightOf := goodIn_r _ [23, 24, 12, 13, 14, 30, 31, 32, 33, 34, 35, 36] (by decide +kernel) (by decide +kernel)
set_option maxRecDepth 20000 in
theorem gX4_isLopsided_X3_rightOf : GoodIn wsX4_isLopsided (wsV RX4 136 RX3 yX3_rightOf wsX3_rightOf) := goodIn_app (goodIn_of _ (by decide +kernel)) ggX4_isLopsided_X3_rightOf
theorem dX4_isLopsided_0 : decode cX4_isLopsided 0 = .ok (.aload_n 0, 1) := by decide +kernel
theorem dX4_isLopsided_1 : decode cX4_isLopsided 1 = .ok (.getfield 18, 3) := by decide +kernel
theorem dX4_isLopsided_4 : decode cX4_isLopsided 4 = .ok (.aload_n 0, 1) := by decide +kernel
theorem dX4_isLopsided_5 : decode cX4_isLopsided 5 = .ok (.getfield 18, 3) := by decide +kernel
theorem dX4_isLopsided_8 : decode cX4_isLopsided 8 = .ok (.iload_n 1, 1) := by decide +kernel
theorem dX4_isLopsided_9 : decode cX4_isLopsided 9 = .ok (.invokevirtual 130, 3) := by decide +kernel
theorem dX4_isLopsided_12 : decode cX4_isLopsided 12 = .ok (.invokevirtual 133, 3) := by decide +kernel
theorem dX4_isLopsided_15 : decode cX4_isLopsided 15 = .ok (.aload_n 0, 1) := by decide +kernel
theorem dX4_isLopsided_16 : decode cX4_isLopsided 16 = .ok (.getfield 18, 3) := by decide +kernel
theorem dX4_isLopsided_19 : decode cX4_isLopsided 19 = .ok (.aload_n 0, 1) := by decide +kernel
theorem dX4_isLopsided_20 : decode cX4_isLopsided 20 = .ok (.getfield 18, 3) := by decide +kernel
theorem dX4_isLopsided_23 : decode cX4_isLopsided 23 = .ok (.iload_n 1, 1) := by decide +kernel
theorem dX4_isLopsided_24 : decode cX4_isLopsided 24 = .ok (.invokevirtual 136, 3) := by decide +kernel
theorem dX4_isLopsided_27 : decode cX4_isLopsided 27 = .ok (.invokevirtual 133, 3) := by decide +kernel
theorem dX4_isLopsided_30 : decode cX4_isLopsided 30 = .ok (.invokestatic 50, 3) := by decide +kernel
theorem dX4_isLopsided_33 : decode cX4_isLopsided 33 = .ok (.istore_n 2, 1) := by decide +kernel
theorem dX4_isLopsided_34 : decode cX4_isLopsided 34 = .ok (.iconst 3, 1) := by decide +kernel
theorem dX4_isLopsided_35 : decode cX4_isLopsided 35 = .ok (.iload_n 2, 1) := by decide +kernel
theorem dX4_isLopsided_36 : decode cX4_isLopsided 36 = .ok (.imul, 1) := by decide +kernel
theorem dX4_isLopsided_37 : decode cX4_isLopsided 37 = .ok (.iconst 2, 1) := by decide +kernel
theorem dX4_isLopsided_38 : decode cX4_isLopsided 38 = .ok (.aload_n 0, 1) := by decide +kernel
theorem dX4_isLopsided_39 : decode cX4_isLopsided 39 = .ok (.getfield 18, 3) := by decide +kernel
theorem dX4_isLopsided_42 : decode cX4_isLopsided 42 = .ok (.iload_n 1, 1) := by decide +kernel
theorem dX4_isLopsided_43 : decode cX4_isLopsided 43 = .ok (.invokevirtual 133, 3) := by decide +kernel
theorem dX4_isLopsided_46 : decode cX4_isLopsided 46 = .ok (.imul, 1) := by decide +kernel
theorem dX4_isLopsided_47 : decode cX4_isLopsided 47 = .ok (.if_icmp .le 7, 3) := by decide +kernel
theorem dX4_isLopsided_50 : decode cX4_isLopsided 50 = .ok (.iconst 1, 1) := by decide +kernel
theorem dX4_isLopsided_51 : decode cX4_isLopsided 51 = .ok (.goto 4, 3) := by decide +kernel
theorem dX4_isLopsided_54 : decode cX4_isLopsided 54 = .ok (.iconst 0, 1) := by decide +kernel
theorem dX4_isLopsided_55 : decode cX4_isLopsided 55 = .ok (.ireturn, 1) := by decide +kernel
set_option maxRecDepth 20000 in
theorem ggX4_sink_X3_sizeOf : GoodIn wsX4_sink wsX3_sizeOf := goodIn_r _ [6, 7, 66, 67, 68, 69, 70, 71, 72] (by decide +kernel) (by decide +kernel)
set_option maxRecDepth 20000 in
theorem gX4_sink_X3_sizeOf : GoodIn wsX4_sink (wsV RX4 133 RX3 yX3_sizeOf wsX3_sizeOf) := goodIn_app (goodIn_of _ (by decide +kernel)) ggX4_sink_X3_sizeOf
set_option maxRecDepth 20000 in
theorem ggX4_sink_X4_childToTurn : GoodIn wsX4_sink wsX4_childToTurn := goodIn_r _ [12, 1, 13, 14, 15, 16, 5, 17, 18, 19, 20, 21, 22, 23, 24, 25, 26, 27, 28, 2, 3, 4, 6, 7, 61, 62, 63, 64, 65, 66, 67, 68, 69, 70, 71, 72] (by decide +kernel) (by decide +kernel)
set_option maxRecDepth 20000 in
theorem gX4_sink_X4_childToTurn : GoodIn wsX4_sink (wsV RX4 139 RX4 yX4_childToTurn wsX4_childToTurn) := goodIn_app (goodIn_of _ (by decide +kernel)) ggX4_sink_X4_childToTurn
set_option maxRecDepth 20000 in
theorem ggX4_sink_X3_turn : GoodIn wsX4_sink wsX3_turn := goodIn_r _ [32, 33, 34, 35, 36, 5, 37, 38, 19, 20, 21, 39, 23, 24, 25, 26, 40, 41, 42, 43, 18, 44, 45, 46, 47, 48, 49, 50, 15, 16, 17, 51, 52, 53, 54, 55, 56, 57, 58, 59, 7, 60, 3, 4, 6, 66, 67, 68, 69, 70, 71, 72] (by decide +kernel) (by decide +kernel)
set_option maxRecDepth 20000 in
theorem gX4_sink_X3_turn : GoodIn wsX4_sink (wsV RX4 110 RX3 yX3_turn wsX3_turn) := goodIn_app (goodIn_of _ (by decide +kernel)) ggX4_sink_X3_turn
theorem dX4_sink_0 : decode cX4_sink 0 = .ok (.iconst 0, 1) := by decide +kernel
theorem dX4_sink_1 : decode cX4_sink 1 = .ok (.istore_n 2, 1) := by decide +kernel
theorem dX4_sink_2 : decode cX4_sink 2 = .ok (.iload_n 2, 1) := by decide +kernel
theorem dX4_sink_3 : decode cX4_sink 3 = .ok (.bipush 64, 2) := by decide +kernel
theorem dX4_sink_5 : decode cX4_sink 5 = .ok (.if_icmp .ge 33, 3) := by decide +kernel
theorem dX4_sink_8 : decode cX4_sink 8 = .ok (.aload_n 0, 1) := by decide +kernel
theorem dX4_sink_9 : decode cX4_sink 9 = .ok (.getfield 18, 3) := by decide +kernel
theorem dX4_sink_12 : decode cX4_sink 12 = .ok (.iload_n 1, 1) := by decide +kernel
theorem dX4_sink_13 : decode cX4_sink 13 = .ok (.invokevirtual 133, 3) := by decide +kernel
theorem dX4_sink_16 : decode cX4_sink 16 = .ok (.iconst 1, 1) := by decide +kernel
theorem dX4_sink_17 : decode cX4_sink 17 = .ok (.if_icmp .le 21, 3) := by decide +kernel
theorem dX4_sink_20 : decode cX4_sink 20 = .ok (.aload_n 0, 1) := by decide +kernel
theorem dX4_sink_21 : decode cX4_sink 21 = .ok (.getfield 18, 3) := by decide +kernel
theorem dX4_sink_24 : decode cX4_sink 24 = .ok (.aload_n 0, 1) := by decide +kernel
theorem dX4_sink_25 : decode cX4_sink 25 = .ok (.iload_n 1, 1) := by decide +kernel
theorem dX4_sink_26 : decode cX4_sink 26 = .ok (.invokevirtual 139, 3) := by decide +kernel
theorem dX4_sink_29 : decode cX4_sink 29 = .ok (.invokevirtual 110, 3) := by decide +kernel
theorem dX4_sink_32 : decode cX4_sink 32 = .ok (.iinc 2 1, 3) := by decide +kernel
theorem dX4_sink_35 : decode cX4_sink 35 = .ok (.goto (-33), 3) := by decide +kernel
theorem dX4_sink_38 : decode cX4_sink 38 = .ok (.return_, 1) := by decide +kernel
set_option maxRecDepth 20000 in
theorem ggX4_childToTurn_X3_leftOf : GoodIn wsX4_childToTurn wsX3_leftOf := goodIn_r _ [7, 8, 9, 10, 11, 29, 30, 31, 32, 33, 34, 35] (by decide +kernel) (by decide +kernel)
set_option maxRecDepth 20000 in
theorem gX4_childToTurn_X3_leftOf : GoodIn wsX4_childToTurn (wsV RX4 130 RX3 yX3_leftOf wsX3_leftOf) := goodIn_app (goodIn_of _ (by decide +kernel)) ggX4_childToTurn_X3_leftOf
set_option maxRecDepth 20000 in
theorem ggX4_childToTurn_X3_rightOf : GoodIn wsX4_childToTurn wsX3_rightOf := goodIn_r _ [15, 16, 9, 10, 11, 29, 30, 31, 32, 33, 34, 35] (by decide +kernel) (by decide +kernel)
set_option maxRecDepth 20000 in
theorem gX4_childToTurn_X3_rightOf : GoodIn wsX4_childToTurn (wsV RX4 136 RX3 yX3_rightOf wsX3_rightOf) := goodIn_app (goodIn_of _ (by decide +kernel)) ggX4_childToTurn_X3_rightOf
set_option maxRecDepth 20000 in
theorem ggX4_childToTurn_X5_weight : GoodIn wsX4_childToTurn wsX5_weight := goodIn_r _ [18] (by decide +kernel) (by decide +kernel)
set_option maxRecDepth 20000 in
theorem gX4_childToTurn_X5_weight_n113 : GoodIn wsX4_childToTurn (wsX5_weight) := ggX4_childToTurn_X5_weight
set_option maxRecDepth 20000 in
theorem ggX4_childToTurn_X3_sizeOf : GoodIn wsX4_childToTurn wsX3_sizeOf := goodIn_r _ [22, 23, 29, 30, 31, 32, 33, 34, 35] (by decide +kernel) (by decide +kernel)
set_option maxRecDepth 20000 in
theorem gX4_childToTurn_X3_sizeOf : GoodIn wsX4_childToTurn (wsV RX4 133 RX3 yX3_sizeOf wsX3_sizeOf) := goodIn_app (goodIn_of _ (by decide +kernel)) ggX4_childToTurn_X3_sizeOf
theorem dX4_childToTurn_0 : decode cX4_childToTurn 0 = .ok (.aload_n 0, 1) := by decide +kernel
theorem dX4_childToTurn_1 : decode cX4_childToTurn 1 = .ok (.getfield 18, 3) := by decide +kernel
theorem dX4_childToTurn_4 : decode cX4_childToTurn 4 = .ok (.iload_n 1, 1) := by decide +kernel
theorem dX4_childToTurn_5 : decode cX4_childToTurn 5 = .ok (.invokevirtual 130, 3) := by decide +kernel
theorem dX4_childToTurn_8 : decode cX4_childToTurn 8 = .ok (.istore_n 2, 1) := by decide +kernel
theorem dX4_childToTurn_9 : decode cX4_childToTurn 9 = .ok (.aload_n 0, 1) := by decide +kernel
theorem dX4_childToTurn_10 : decode cX4_childToTurn 10 = .ok (.getfield 18, 3) := by decide +kernel
theorem dX4_childToTurn_13 : decode cX4_childToTurn 13 = .ok (.iload_n 1, 1) := by decide +kernel
theorem dX4_childToTurn_14 : decode cX4_childToTurn 14 = .ok (.invokevirtual 136, 3) := by decide +kernel
theorem dX4_childToTurn_17 : decode cX4_childToTurn 17 = .ok (.istore_n 3, 1) := by decide +kernel
theorem dX4_childToTurn_18 : decode cX4_childToTurn 18 = .ok (.iload_n 3, 1) := by decide +kernel
theorem dX4_childToTurn_19 : decode cX4_childToTurn 19 = .ok (.iconst (-1), 1) := by decide +kernel
theorem dX4_childToTurn_20 : decode cX4_childToTurn 20 = .ok (.if_icmp .ne 5, 3) := by decide +kernel
theorem dX4_childToTurn_23 : decode cX4_childToTurn 23 = .ok (.iload_n 2, 1) := by decide +kernel
theorem dX4_childToTurn_24 : decode cX4_childToTurn 24 = .ok (.ireturn, 1) := by decide +kernel
theorem dX4_childToTurn_25 : decode cX4_childToTurn 25 = .ok (.iload_n 2, 1) := by decide +kernel
theorem dX4_childToTurn_26 : decode cX4_childToTurn 26 = .ok (.iconst (-1), 1) := by decide +kernel
theorem dX4_childToTurn_27 : decode cX4_childToTurn 27 = .ok (.if_icmp .ne 5, 3) := by decide +kernel
theorem dX4_childToTurn_30 : decode cX4_childToTurn 30 = .ok (.iload_n 3, 1) := by decide +kernel
theorem dX4_childToTurn_31 : decode cX4_childToTurn 31 = .ok (.ireturn, 1) := by decide +kernel
theorem dX4_childToTurn_32 : decode cX4_childToTurn 32 = .ok (.aload_n 0, 1) := by decide +kernel
theorem dX4_childToTurn_33 : decode cX4_childToTurn 33 = .ok (.getfield 9, 3) := by decide +kernel
theorem dX4_childToTurn_36 : decode cX4_childToTurn 36 = .ok (.iconst 5, 1) := by decide +kernel
theorem dX4_childToTurn_37 : decode cX4_childToTurn 37 = .ok (.if_icmp .ne 20, 3) := by decide +kernel
theorem dX4_childToTurn_40 : decode cX4_childToTurn 40 = .ok (.iload_n 2, 1) := by decide +kernel
theorem dX4_childToTurn_41 : decode cX4_childToTurn 41 = .ok (.invokestatic 113, 3) := by decide +kernel
theorem dX4_childToTurn_44 : decode cX4_childToTurn 44 = .ok (.iload_n 3, 1) := by decide +kernel
theorem dX4_childToTurn_45 : decode cX4_childToTurn 45 = .ok (.invokestatic 113, 3) := by decide +kernel
theorem dX4_childToTurn_48 : decode cX4_childToTurn 48 = .ok (.if_icmp .le 7, 3) := by decide +kernel
theorem dX4_childToTurn_51 : decode cX4_childToTurn 51 = .ok (.iload_n 2, 1) := by decide +kernel
theorem dX4_childToTurn_52 : decode cX4_childToTurn 52 = .ok (.goto 4, 3) := by decide +kernel
theorem dX4_childToTurn_55 : decode cX4_childToTurn 55 = .ok (.iload_n 3, 1) := by decide +kernel
theorem dX4_childToTurn_56 : decode cX4_childToTurn 56 = .ok (.ireturn, 1) := by decide +kernel
theorem dX4_childToTurn_57 : decode cX4_childToTurn 57 = .ok (.aload_n 0, 1) := by decide +kernel
theorem dX4_childToTurn_58 : decode cX4_childToTurn 58 = .ok (.getfield 18, 3) := by decide +kernel
theorem dX4_childToTurn_61 : decode cX4_childToTurn 61 = .ok (.iload_n 2, 1) := by decide +kernel
theorem dX4_childToTurn_62 : decode cX4_childToTurn 62 = .ok (.invokevirtual 133, 3) := by decide +kernel
theorem dX4_childToTurn_65 : decode cX4_childToTurn 65 = .ok (.aload_n 0, 1) := by decide +kernel
theorem dX4_childToTurn_66 : decode cX4_childToTurn 66 = .ok (.getfield 18, 3) := by decide +kernel
theorem dX4_childToTurn_69 : decode cX4_childToTurn 69 = .ok (.iload_n 3, 1) := by decide +kernel
theorem dX4_childToTurn_70 : decode cX4_childToTurn 70 = .ok (.invokevirtual 133, 3) := by decide +kernel
theorem dX4_childToTurn_73 : decode cX4_childToTurn 73 = .ok (.if_icmp .lt 7, 3) := by decide +kernel
theorem dX4_childToTurn_76 : decode cX4_childToTurn 76 = .ok (.iload_n 2, 1) := by decide +kernel
theorem dX4_childToTurn_77 : decode cX4_childToTurn 77 = .ok (.goto 4, 3) := by decide +kernel
theorem dX4_childToTurn_80 : decode cX4_childToTurn 80 = .ok (.iload_n 3, 1) := by decide +kernel
theorem dX4_childToTurn_81 : decode cX4_childToTurn 81 = .ok (.ireturn, 1) := by decide +kernel
set_option maxRecDepth 20000 in
theorem ggX4_mergeByWeight_X5_weight : GoodIn wsX4_mergeByWeight wsX5_weight := goodIn_r _ [4] (by decide +kernel) (by decide +kernel)
set_option maxRecDepth 20000 in
theorem gX4_mergeByWeight_X5_weight_n113 : GoodIn wsX4_mergeByWeight (wsX5_weight) := ggX4_mergeByWeight_X5_weight
set_option maxRecDepth 20000 in
theorem ggX4_mergeByWeight_X3_hang : GoodIn wsX4_mergeByWeight wsX3_hang := goodIn_r _ [9, 10, 11, 12, 13, 14, 3, 15, 48, 49, 50, 51, 52, 53, 54] (by decide +kernel) (by decide +kernel)
set_option maxRecDepth 20000 in
theorem gX4_mergeByWeight_X3_hang : GoodIn wsX4_mergeByWeight (wsV RX4 92 RX3 yX3_hang wsX3_hang) := goodIn_app (goodIn_of _ (by decide +kernel)) ggX4_mergeByWeight_X3_hang
set_option maxRecDepth 20000 in
theorem ggX4_mergeByWeight_X3_rightOf : GoodIn wsX4_mergeByWeight wsX3_rightOf := goodIn_r _ [19, 13, 20, 3, 21, 48, 49, 50, 51, 52, 53, 54] (by decide +kernel) (by decide +kernel)
set_option maxRecDepth 20000 in
theorem gX4_mergeByWeight_X3_rightOf : GoodIn wsX4_mergeByWeight (wsV RX4 136 RX3 yX3_rightOf wsX3_rightOf) := goodIn_app (goodIn_of _ (by decide +kernel)) ggX4_mergeByWeight_X3_rightOf
set_option maxRecDepth 20000 in
theorem ggX4_mergeByWeight_X3_leftOf : GoodIn wsX4_mergeByWeight wsX3_leftOf := goodIn_r _ [25, 12, 20, 3, 21, 48, 49, 50, 51, 52, 53, 54] (by decide +kernel) (by decide +kernel)
set_option maxRecDepth 20000 in
theorem gX4_mergeByWeight_X3_leftOf : GoodIn wsX4_mergeByWeight (wsV RX4 130 RX3 yX3_leftOf wsX3_leftOf) := goodIn_app (goodIn_of _ (by decide +kernel)) ggX4_mergeByWeight_X3_leftOf
set_option maxRecDepth 20000 in
theorem ggX4_mergeByWeight_X3_resizeUpFrom : GoodIn wsX4_mergeByWeight wsX3_resizeUpFrom := goodIn_r _ [29, 30, 31, 32, 8, 33, 34, 12, 13, 20, 3, 21, 35, 36, 37, 38, 14, 15, 39, 40, 41, 42, 10, 48, 49, 50, 51, 52, 53, 54] (by decide +kernel) (by decide +kernel)
set_option maxRecDepth 20000 in
theorem gX4_mergeByWeight_X3_resizeUpFrom : GoodIn wsX4_mergeByWeight (wsV RX4 104 RX3 yX3_resizeUpFrom wsX3_resizeUpFrom) := goodIn_app (goodIn_of _ (by decide +kernel)) ggX4_mergeByWeight_X3_resizeUpFrom
theorem dX4_mergeByWeight_0 : decode cX4_mergeByWeight 0 = .ok (.iload_n 1, 1) := by decide +kernel
theorem dX4_mergeByWeight_1 : decode cX4_mergeByWeight 1 = .ok (.istore_n 3, 1) := by decide +kernel
theorem dX4_mergeByWeight_2 : decode cX4_mergeByWeight 2 = .ok (.iload_n 2, 1) := by decide +kernel
theorem dX4_mergeByWeight_3 : decode cX4_mergeByWeight 3 = .ok (.istore 4, 2) := by decide +kernel
theorem dX4_mergeByWeight_5 : decode cX4_mergeByWeight 5 = .ok (.iconst (-1), 1) := by decide +kernel
theorem dX4_mergeByWeight_6 : decode cX4_mergeByWeight 6 = .ok (.istore 5, 2) := by decide +kernel
theorem dX4_mergeByWeight_8 : decode cX4_mergeByWeight 8 = .ok (.iconst 0, 1) := by decide +kernel
theorem dX4_mergeByWeight_9 : decode cX4_mergeByWeight 9 = .ok (.istore 6, 2) := by decide +kernel
theorem dX4_mergeByWeight_11 : decode cX4_mergeByWeight 11 = .ok (.iload 6, 2) := by decide +kernel
theorem dX4_mergeByWeight_13 : decode cX4_mergeByWeight 13 = .ok (.sipush 128, 3) := by decide +kernel
theorem dX4_mergeByWeight_16 : decode cX4_mergeByWeight 16 = .ok (.if_icmp .ge 83, 3) := by decide +kernel
theorem dX4_mergeByWeight_19 : decode cX4_mergeByWeight 19 = .ok (.iload_n 3, 1) := by decide +kernel
theorem dX4_mergeByWeight_20 : decode cX4_mergeByWeight 20 = .ok (.iconst (-1), 1) := by decide +kernel
theorem dX4_mergeByWeight_21 : decode cX4_mergeByWeight 21 = .ok (.if_icmp .eq 78, 3) := by decide +kernel
theorem dX4_mergeByWeight_24 : decode cX4_mergeByWeight 24 = .ok (.iload 4, 2) := by decide +kernel
theorem dX4_mergeByWeight_26 : decode cX4_mergeByWeight 26 = .ok (.iconst (-1), 1) := by decide +kernel
theorem dX4_mergeByWeight_27 : decode cX4_mergeByWeight 27 = .ok (.if_icmp .eq 72, 3) := by decide +kernel
theorem dX4_mergeByWeight_30 : decode cX4_mergeByWeight 30 = .ok (.iload_n 3, 1) := by decide +kernel
theorem dX4_mergeByWeight_31 : decode cX4_mergeByWeight 31 = .ok (.invokestatic 113, 3) := by decide +kernel
theorem dX4_mergeByWeight_34 : decode cX4_mergeByWeight 34 = .ok (.iload 4, 2) := by decide +kernel
theorem dX4_mergeByWeight_36 : decode cX4_mergeByWeight 36 = .ok (.invokestatic 113, 3) := by decide +kernel
theorem dX4_mergeByWeight_39 : decode cX4_mergeByWeight 39 = .ok (.if_icmp .le 28, 3) := by decide +kernel
theorem dX4_mergeByWeight_42 : decode cX4_mergeByWeight 42 = .ok (.aload_n 0, 1) := by decide +kernel
theorem dX4_mergeByWeight_43 : decode cX4_mergeByWeight 43 = .ok (.getfield 18, 3) := by decide +kernel
theorem dX4_mergeByWeight_46 : decode cX4_mergeByWeight 46 = .ok (.iload_n 3, 1) := by decide +kernel
theorem dX4_mergeByWeight_47 : decode cX4_mergeByWeight 47 = .ok (.iload 5, 2) := by decide +kernel
theorem dX4_mergeByWeight_49 : decode cX4_mergeByWeight 49 = .ok (.invokevirtual 92, 3) := by decide +kernel
theorem dX4_mergeByWeight_52 : decode cX4_mergeByWeight 52 = .ok (.iload_n 3, 1) := by decide +kernel
theorem dX4_mergeByWeight_53 : decode cX4_mergeByWeight 53 = .ok (.istore 5, 2) := by decide +kernel
theorem dX4_mergeByWeight_55 : decode cX4_mergeByWeight 55 = .ok (.aload_n 0, 1) := by decide +kernel
theorem dX4_mergeByWeight_56 : decode cX4_mergeByWeight 56 = .ok (.getfield 18, 3) := by decide +kernel
theorem dX4_mergeByWeight_59 : decode cX4_mergeByWeight 59 = .ok (.iload_n 3, 1) := by decide +kernel
theorem dX4_mergeByWeight_60 : decode cX4_mergeByWeight 60 = .ok (.invokevirtual 136, 3) := by decide +kernel
theorem dX4_mergeByWeight_63 : decode cX4_mergeByWeight 63 = .ok (.istore_n 3, 1) := by decide +kernel
theorem dX4_mergeByWeight_64 : decode cX4_mergeByWeight 64 = .ok (.goto 29, 3) := by decide +kernel
theorem dX4_mergeByWeight_67 : decode cX4_mergeByWeight 67 = .ok (.aload_n 0, 1) := by decide +kernel
theorem dX4_mergeByWeight_68 : decode cX4_mergeByWeight 68 = .ok (.getfield 18, 3) := by decide +kernel
theorem dX4_mergeByWeight_71 : decode cX4_mergeByWeight 71 = .ok (.iload 4, 2) := by decide +kernel
theorem dX4_mergeByWeight_73 : decode cX4_mergeByWeight 73 = .ok (.iload 5, 2) := by decide +kernel
theorem dX4_mergeByWeight_75 : decode cX4_mergeByWeight 75 = .ok (.invokevirtual 92, 3) := by decide +kernel
theorem dX4_mergeByWeight_78 : decode cX4_mergeByWeight 78 = .ok (.iload 4, 2) := by decide +kernel
theorem dX4_mergeByWeight_80 : decode cX4_mergeByWeight 80 = .ok (.istore 5, 2) := by decide +kernel
theorem dX4_mergeByWeight_82 : decode cX4_mergeByWeight 82 = .ok (.aload_n 0, 1) := by decide +kernel
theorem dX4_mergeByWeight_83 : decode cX4_mergeByWeight 83 = .ok (.getfield 18, 3) := by decide +kernel
theorem dX4_mergeByWeight_86 : decode cX4_mergeByWeight 86 = .ok (.iload 4, 2) := by decide +kernel
theorem dX4_mergeByWeight_88 : decode cX4_mergeByWeight 88 = .ok (.invokevirtual 130, 3) := by decide +kernel
theorem dX4_mergeByWeight_91 : decode cX4_mergeByWeight 91 = .ok (.istore 4, 2) := by decide +kernel
theorem dX4_mergeByWeight_93 : decode cX4_mergeByWeight 93 = .ok (.iinc 6 1, 3) := by decide +kernel
theorem dX4_mergeByWeight_96 : decode cX4_mergeByWeight 96 = .ok (.goto (-85), 3) := by decide +kernel
theorem dX4_mergeByWeight_99 : decode cX4_mergeByWeight 99 = .ok (.aload_n 0, 1) := by decide +kernel
theorem dX4_mergeByWeight_100 : decode cX4_mergeByWeight 100 = .ok (.getfield 18, 3) := by decide +kernel
theorem dX4_mergeByWeight_103 : decode cX4_mergeByWeight 103 = .ok (.iload_n 3, 1) := by decide +kernel
theorem dX4_mergeByWeight_104 : decode cX4_mergeByWeight 104 = .ok (.iconst (-1), 1) := by decide +kernel
theorem dX4_mergeByWeight_105 : decode cX4_mergeByWeight 105 = .ok (.if_icmp .ne 8, 3) := by decide +kernel
theorem dX4_mergeByWeight_108 : decode cX4_mergeByWeight 108 = .ok (.iload 4, 2) := by decide +kernel
theorem dX4_mergeByWeight_110 : decode cX4_mergeByWeight 110 = .ok (.goto 4, 3) := by decide +kernel
theorem dX4_mergeByWeight_113 : decode cX4_mergeByWeight 113 = .ok (.iload_n 3, 1) := by decide +kernel
theorem dX4_mergeByWeight_114 : decode cX4_mergeByWeight 114 = .ok (.iload 5, 2) := by decide +kernel
theorem dX4_mergeByWeight_116 : decode cX4_mergeByWeight 116 = .ok (.invokevirtual 92, 3) := by decide +kernel
theorem dX4_mergeByWeight_119 : decode cX4_mergeByWeight 119 = .ok (.aload_n 0, 1) := by decide +kernel
theorem dX4_mergeByWeight_120 : decode cX4_mergeByWeight 120 = .ok (.getfield 18, 3) := by decide +kernel
theorem dX4_mergeByWeight_123 : decode cX4_mergeByWeight 123 = .ok (.iload 5, 2) := by decide +kernel
theorem dX4_mergeByWeight_125 : decode cX4_mergeByWeight 125 = .ok (.invokevirtual 104, 3) := by decide +kernel
theorem dX4_mergeByWeight_128 : decode cX4_mergeByWeight 128 = .ok (.return_, 1) := by decide +kernel
set_option maxRecDepth 20000 in
theorem ggX5_init_X1_init : GoodIn wsX5_init wsX1_init := goodIn_r _ [21, 22, 2, 3, 7, 23, 24, 43, 44] (by decide +kernel) (by decide +kernel)
set_option maxRecDepth 20000 in
theorem gX5_init_X1_init : GoodIn wsX5_init (wsX1_init) := ggX5_init_X1_init
set_option maxRecDepth 20000 in
theorem ggX5_init_X0_init : GoodIn wsX5_init wsX0_init := goodIn_r _ [27, 28, 2, 3, 7, 29, 30, 31, 32, 33, 34, 35, 45, 46, 47, 48, 49, 50, 51] (by decide +kernel) (by decide +kernel)
set_option maxRecDepth 20000 in
theorem gX5_init_X0_init : GoodIn wsX5_init (wsX0_init) := ggX5_init_X0_init
theorem dX5_init_0 : decode cX5_init 0 = .ok (.aload_n 0, 1) := by decide +kernel
theorem dX5_init_1 : decode cX5_init 1 = .ok (.invokespecial 1, 3) := by decide +kernel
theorem dX5_init_4 : decode cX5_init 4 = .ok (.aload_n 0, 1) := by decide +kernel
theorem dX5_init_5 : decode cX5_init 5 = .ok (.bipush 8, 2) := by decide +kernel
theorem dX5_init_7 : decode cX5_init 7 = .ok (.anewarray 9, 3) := by decide +kernel
theorem dX5_init_10 : decode cX5_init 10 = .ok (.putfield 11, 3) := by decide +kernel
theorem dX5_init_13 : decode cX5_init 13 = .ok (.aload_n 0, 1) := by decide +kernel
theorem dX5_init_14 : decode cX5_init 14 = .ok (.iconst 0, 1) := by decide +kernel
theorem dX5_init_15 : decode cX5_init 15 = .ok (.putfield 15, 3) := by decide +kernel
theorem dX5_init_18 : decode cX5_init 18 = .ok (.aload_n 0, 1) := by decide +kernel
theorem dX5_init_19 : decode cX5_init 19 = .ok (.sipush 1280, 3) := by decide +kernel
theorem dX5_init_22 : decode cX5_init 22 = .ok (.newarray .int, 2) := by decide +kernel
theorem dX5_init_24 : decode cX5_init 24 = .ok (.putfield 19, 3) := by decide +kernel
theorem dX5_init_27 : decode cX5_init 27 = .ok (.aload_n 0, 1) := by decide +kernel
theorem dX5_init_28 : decode cX5_init 28 = .ok (.iconst 0, 1) := by decide +kernel
theorem dX5_init_29 : decode cX5_init 29 = .ok (.putfield 23, 3) := by decide +kernel
theorem dX5_init_32 : decode cX5_init 32 = .ok (.aload_n 0, 1) := by decide +kernel
theorem dX5_init_33 : decode cX5_init 33 = .ok (.bipush 64, 2) := by decide +kernel
theorem dX5_init_35 : decode cX5_init 35 = .ok (.newarray .int, 2) := by decide +kernel
theorem dX5_init_37 : decode cX5_init 37 = .ok (.putfield 26, 3) := by decide +kernel
theorem dX5_init_40 : decode cX5_init 40 = .ok (.aload_n 0, 1) := by decide +kernel
theorem dX5_init_41 : decode cX5_init 41 = .ok (.new 29, 3) := by decide +kernel
theorem dX5_init_44 : decode cX5_init 44 = .ok (.dup, 1) := by decide +kernel
theorem dX5_init_45 : decode cX5_init 45 = .ok (.invokespecial 31, 3) := by decide +kernel
theorem dX5_init_48 : decode cX5_init 48 = .ok (.putfield 32, 3) := by decide +kernel
theorem dX5_init_51 : decode cX5_init 51 = .ok (.aload_n 0, 1) := by decide +kernel
theorem dX5_init_52 : decode cX5_init 52 = .ok (.new 36, 3) := by decide +kernel
theorem dX5_init_55 : decode cX5_init 55 = .ok (.dup, 1) := by decide +kernel
theorem dX5_init_56 : decode cX5_init 56 = .ok (.invokespecial 38, 3) := by decide +kernel
theorem dX5_init_59 : decode cX5_init 59 = .ok (.putfield 39, 3) := by decide +kernel
theorem dX5_init_62 : decode cX5_init 62 = .ok (.return_, 1) := by decide +kernel
set_option maxRecDepth 20000 in
theorem ggX5_tree_X5_newTree : GoodIn wsX5_tree wsX5_newTree := goodIn_r _ [5, 6, 7, 8, 9, 10, 11, 12, 13, 14, 15, 16, 17, 18, 19, 20, 21, 22, 23, 24, 25, 26, 27, 28, 29, 30, 31, 32, 33, 34, 35, 36, 37, 38, 39, 40, 41, 42, 43, 44, 45, 46, 47, 48, 49, 50, 51, 52, 53, 54, 55, 56, 57, 58, 59, 60, 61, 62, 63, 64, 65, 66, 67, 68, 69, 70] (by decide +kernel) (by decide +kernel)
set_option maxRecDepth 20000 in
theorem gX5_tree_X5_newTree : GoodIn wsX5_tree (wsV RX5 43 RX5 yX5_newTree wsX5_newTree) := goodIn_app (goodIn_of _ (by decide +kernel)) ggX5_tree_X5_newTree
theorem dX5_tree_0 : decode cX5_tree 0 = .ok (.iload_n 1, 1) := by decide +kernel
theorem dX5_tree_1 : decode cX5_tree 1 = .ok (.ifCond .lt 8, 3) := by decide +kernel
theorem dX5_tree_4 : decode cX5_tree 4 = .ok (.iload_n 1, 1) := by decide +kernel
theorem dX5_tree_5 : decode cX5_tree 5 = .ok (.iconst 5, 1) := by decide +kernel
theorem dX5_tree_6 : decode cX5_tree 6 = .ok (.if_icmp .le 5, 3) := by decide +kernel
theorem dX5_tree_9 : decode cX5_tree 9 = .ok (.iconst (-1), 1) := by decide +kernel
theorem dX5_tree_10 : decode cX5_tree 10 = .ok (.ireturn, 1) := by decide +kernel
theorem dX5_tree_11 : decode cX5_tree 11 = .ok (.aload_n 0, 1) := by decide +kernel
theorem dX5_tree_12 : decode cX5_tree 12 = .ok (.iload_n 1, 1) := by decide +kernel
theorem dX5_tree_13 : decode cX5_tree 13 = .ok (.invokevirtual 43, 3) := by decide +kernel
theorem dX5_tree_16 : decode cX5_tree 16 = .ok (.ireturn, 1) := by decide +kernel
set_option maxRecDepth 20000 in
theorem ggX5_add_X5_treeOf : GoodIn wsX5_add wsX5_treeOf := goodIn_r _ [6, 7, 160, 161, 162, 163, 164, 165, 166] (by decide +kernel) (by decide +kernel)
set_option maxRecDepth 20000 in
theorem gX5_add_X5_treeOf : GoodIn wsX5_add (wsV RX5 47 RX5 yX5_treeOf wsX5_treeOf) := goodIn_app (goodIn_of _ (by decide +kernel)) ggX5_add_X5_treeOf
set_option maxRecDepth 20000 in
theorem ggX5_add_X5_isKey : GoodIn wsX5_add wsX5_isKey := goodIn_r _ [10] (by decide +kernel) (by decide +kernel)
set_option maxRecDepth 20000 in
theorem gX5_add_X5_isKey : GoodIn wsX5_add (va_wsS RX5 51 yX5_isKey wsX5_isKey) := goodIn_app (goodIn_of _ (by decide +kernel)) ggX5_add_X5_isKey
set_option maxRecDepth 20000 in
theorem ggX5_add_X3_holds : GoodIn wsX5_add wsX3_holds := goodIn_r _ [15, 16, 17, 18, 14, 19, 20, 167, 168, 169, 170, 171, 172, 173] (by decide +kernel) (by decide +kernel)
set_option maxRecDepth 20000 in
theorem gX5_add_X3_holds : GoodIn wsX5_add (wsV RX5 59 RX3 yX3_holds wsX3_holds) := goodIn_app (goodIn_of _ (by decide +kernel)) ggX5_add_X3_holds
set_option maxRecDepth 20000 in
theorem ggX5_add_X4_takeIn : GoodIn wsX5_add wsX4_takeIn := goodIn_r _ [25, 26, 27, 28, 29, 30, 31, 32, 33, 34, 35, 14, 36, 37, 38, 39, 40, 41, 42, 43, 5, 44, 45, 46, 47, 48, 49, 50, 51, 52, 53, 54, 12, 13, 15, 16, 17, 18, 19, 20, 55, 56, 57, 58, 59, 60, 61, 62, 63, 64, 65, 66, 67, 68, 69, 70, 71, 72, 73, 74, 75, 76, 77, 78, 79, 80, 81, 82, 83, 24, 84, 85, 86, 87, 88, 89, 90, 91, 92, 93, 94, 95, 96, 97, 98, 99, 100, 101, 102, 103, 104, 105, 106, 107, 108, 109, 110, 111, 112, 113, 114, 115, 116, 117, 118, 119, 120, 121, 122, 123, 124, 125, 126, 127, 128, 129, 130, 131, 132, 133, 134, 135, 136, 137, 138, 139, 140, 141, 142, 143, 144, 145, 146, 147, 148, 149, 150, 151, 152, 153, 154, 155, 156, 157, 158, 159, 167, 168, 169, 170, 171, 172, 173] (by decide +kernel) (by decide +kernel)
