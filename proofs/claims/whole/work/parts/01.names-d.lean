theorem dX4_init_0 : decode cX4_init 0 = .ok (.aload_n 0, 1) := by decide +kernel
theorem dX4_init_1 : decode cX4_init 1 = .ok (.invokespecial 1, 3) := by decide +kernel
theorem dX4_init_4 : decode cX4_init 4 = .ok (.aload_n 0, 1) := by decide +kernel
theorem dX4_init_5 : decode cX4_init 5 = .ok (.sipush 539, 3) := by decide +kernel
theorem dX4_init_8 : decode cX4_init 8 = .ok (.newarray .int, 2) := by decide +kernel
theorem dX4_init_10 : decode cX4_init 10 = .ok (.putfield 7, 3) := by decide +kernel
theorem dX4_init_13 : decode cX4_init 13 = .ok (.aload_n 0, 1) := by decide +kernel
theorem dX4_init_14 : decode cX4_init 14 = .ok (.sipush 1078, 3) := by decide +kernel
theorem dX4_init_17 : decode cX4_init 17 = .ok (.newarray .int, 2) := by decide +kernel
theorem dX4_init_19 : decode cX4_init 19 = .ok (.putfield 13, 3) := by decide +kernel
theorem dX4_init_22 : decode cX4_init 22 = .ok (.aload_n 0, 1) := by decide +kernel
theorem dX4_init_23 : decode cX4_init 23 = .ok (.iconst 2, 1) := by decide +kernel
theorem dX4_init_24 : decode cX4_init 24 = .ok (.newarray .boolean, 2) := by decide +kernel
theorem dX4_init_26 : decode cX4_init 26 = .ok (.putfield 16, 3) := by decide +kernel
theorem dX4_init_29 : decode cX4_init 29 = .ok (.aload_n 0, 1) := by decide +kernel
theorem dX4_init_30 : decode cX4_init 30 = .ok (.getfield 7, 3) := by decide +kernel
theorem dX4_init_33 : decode cX4_init 33 = .ok (.iconst 0, 1) := by decide +kernel
theorem dX4_init_34 : decode cX4_init 34 = .ok (.iconst 5, 1) := by decide +kernel
theorem dX4_init_35 : decode cX4_init 35 = .ok (.iastore, 1) := by decide +kernel
theorem dX4_init_36 : decode cX4_init 36 = .ok (.aload_n 0, 1) := by decide +kernel
theorem dX4_init_37 : decode cX4_init 37 = .ok (.getfield 7, 3) := by decide +kernel
theorem dX4_init_40 : decode cX4_init 40 = .ok (.iconst 1, 1) := by decide +kernel
theorem dX4_init_41 : decode cX4_init 41 = .ok (.iconst 4, 1) := by decide +kernel
theorem dX4_init_42 : decode cX4_init 42 = .ok (.iastore, 1) := by decide +kernel
theorem dX4_init_43 : decode cX4_init 43 = .ok (.aload_n 0, 1) := by decide +kernel
theorem dX4_init_44 : decode cX4_init 44 = .ok (.getfield 7, 3) := by decide +kernel
theorem dX4_init_47 : decode cX4_init 47 = .ok (.iconst 2, 1) := by decide +kernel
theorem dX4_init_48 : decode cX4_init 48 = .ok (.bipush 8, 2) := by decide +kernel
theorem dX4_init_50 : decode cX4_init 50 = .ok (.iastore, 1) := by decide +kernel
theorem dX4_init_51 : decode cX4_init 51 = .ok (.aload_n 0, 1) := by decide +kernel
theorem dX4_init_52 : decode cX4_init 52 = .ok (.getfield 7, 3) := by decide +kernel
theorem dX4_init_55 : decode cX4_init 55 = .ok (.iconst 3, 1) := by decide +kernel
theorem dX4_init_56 : decode cX4_init 56 = .ok (.iconst 3, 1) := by decide +kernel
theorem dX4_init_57 : decode cX4_init 57 = .ok (.iastore, 1) := by decide +kernel
theorem dX4_init_58 : decode cX4_init 58 = .ok (.aload_n 0, 1) := by decide +kernel
theorem dX4_init_59 : decode cX4_init 59 = .ok (.getfield 7, 3) := by decide +kernel
theorem dX4_init_62 : decode cX4_init 62 = .ok (.iconst 4, 1) := by decide +kernel
theorem dX4_init_63 : decode cX4_init 63 = .ok (.iconst 1, 1) := by decide +kernel
theorem dX4_init_64 : decode cX4_init 64 = .ok (.iastore, 1) := by decide +kernel
theorem dX4_init_65 : decode cX4_init 65 = .ok (.aload_n 0, 1) := by decide +kernel
theorem dX4_init_66 : decode cX4_init 66 = .ok (.getfield 7, 3) := by decide +kernel
theorem dX4_init_69 : decode cX4_init 69 = .ok (.iconst 5, 1) := by decide +kernel
theorem dX4_init_70 : decode cX4_init 70 = .ok (.iconst 1, 1) := by decide +kernel
theorem dX4_init_71 : decode cX4_init 71 = .ok (.iastore, 1) := by decide +kernel
theorem dX4_init_72 : decode cX4_init 72 = .ok (.return_, 1) := by decide +kernel
theorem dX4_in_0 : decode cX4_in 0 = .ok (.iload_n 0, 1) := by decide +kernel
theorem dX4_in_1 : decode cX4_in 1 = .ok (.iload_n 1, 1) := by decide +kernel
theorem dX4_in_2 : decode cX4_in 2 = .ok (.if_icmp .lt 12, 3) := by decide +kernel
theorem dX4_in_5 : decode cX4_in 5 = .ok (.iload_n 0, 1) := by decide +kernel
theorem dX4_in_6 : decode cX4_in 6 = .ok (.iload_n 2, 1) := by decide +kernel
theorem dX4_in_7 : decode cX4_in 7 = .ok (.if_icmp .gt 7, 3) := by decide +kernel
theorem dX4_in_10 : decode cX4_in 10 = .ok (.iconst 1, 1) := by decide +kernel
theorem dX4_in_11 : decode cX4_in 11 = .ok (.goto 4, 3) := by decide +kernel
theorem dX4_in_14 : decode cX4_in 14 = .ok (.iconst 0, 1) := by decide +kernel
theorem dX4_in_15 : decode cX4_in 15 = .ok (.ireturn, 1) := by decide +kernel
theorem dX4_at_0 : decode cX4_at 0 = .ok (.bipush 11, 2) := by decide +kernel
theorem dX4_at_2 : decode cX4_at 2 = .ok (.bipush 11, 2) := by decide +kernel
theorem dX4_at_4 : decode cX4_at 4 = .ok (.iload_n 0, 1) := by decide +kernel
theorem dX4_at_5 : decode cX4_at 5 = .ok (.imul, 1) := by decide +kernel
theorem dX4_at_6 : decode cX4_at 6 = .ok (.iadd, 1) := by decide +kernel
theorem dX4_at_7 : decode cX4_at 7 = .ok (.iload_n 1, 1) := by decide +kernel
theorem dX4_at_8 : decode cX4_at 8 = .ok (.iadd, 1) := by decide +kernel
theorem dX4_at_9 : decode cX4_at 9 = .ok (.ireturn, 1) := by decide +kernel
set_option maxRecDepth 20000 in
theorem ggX4_of_X4_at : GoodIn wsX4_of wsX4_at := goodIn_r _ [5] (by decide +kernel) (by decide +kernel)
set_option maxRecDepth 20000 in
theorem gX4_of_X4_at : GoodIn wsX4_of (va_wsS RX4 20 yX4_at wsX4_at) := goodIn_app (goodIn_of _ (by decide +kernel)) ggX4_of_X4_at
theorem dX4_of_0 : decode cX4_of 0 = .ok (.aload_n 0, 1) := by decide +kernel
theorem dX4_of_1 : decode cX4_of 1 = .ok (.getfield 7, 3) := by decide +kernel
theorem dX4_of_4 : decode cX4_of 4 = .ok (.iload_n 1, 1) := by decide +kernel
theorem dX4_of_5 : decode cX4_of 5 = .ok (.iload_n 2, 1) := by decide +kernel
theorem dX4_of_6 : decode cX4_of 6 = .ok (.invokestatic 20, 3) := by decide +kernel
theorem dX4_of_9 : decode cX4_of 9 = .ok (.iaload, 1) := by decide +kernel
theorem dX4_of_10 : decode cX4_of 10 = .ok (.ireturn, 1) := by decide +kernel
set_option maxRecDepth 20000 in
theorem ggX4_isBurst_X4_in : GoodIn wsX4_isBurst wsX4_in := goodIn_r _ [5] (by decide +kernel) (by decide +kernel)
set_option maxRecDepth 20000 in
theorem gX4_isBurst_X4_in : GoodIn wsX4_isBurst (va_wsS RX4 24 yX4_in wsX4_in) := goodIn_app (goodIn_of _ (by decide +kernel)) ggX4_isBurst_X4_in
theorem dX4_isBurst_0 : decode cX4_isBurst 0 = .ok (.iload_n 1, 1) := by decide +kernel
theorem dX4_isBurst_1 : decode cX4_isBurst 1 = .ok (.iconst 0, 1) := by decide +kernel
theorem dX4_isBurst_2 : decode cX4_isBurst 2 = .ok (.aload_n 0, 1) := by decide +kernel
theorem dX4_isBurst_3 : decode cX4_isBurst 3 = .ok (.getfield 7, 3) := by decide +kernel
theorem dX4_isBurst_6 : decode cX4_isBurst 6 = .ok (.bipush 10, 2) := by decide +kernel
theorem dX4_isBurst_8 : decode cX4_isBurst 8 = .ok (.iaload, 1) := by decide +kernel
theorem dX4_isBurst_9 : decode cX4_isBurst 9 = .ok (.iconst 1, 1) := by decide +kernel
theorem dX4_isBurst_10 : decode cX4_isBurst 10 = .ok (.isub, 1) := by decide +kernel
theorem dX4_isBurst_11 : decode cX4_isBurst 11 = .ok (.invokestatic 24, 3) := by decide +kernel
theorem dX4_isBurst_14 : decode cX4_isBurst 14 = .ok (.ireturn, 1) := by decide +kernel
set_option maxRecDepth 20000 in
theorem ggX4_isOut_X4_in : GoodIn wsX4_isOut wsX4_in := goodIn_r _ [4] (by decide +kernel) (by decide +kernel)
set_option maxRecDepth 20000 in
theorem gX4_isOut_X4_in : GoodIn wsX4_isOut (va_wsS RX4 24 yX4_in wsX4_in) := goodIn_app (goodIn_of _ (by decide +kernel)) ggX4_isOut_X4_in
theorem dX4_isOut_0 : decode cX4_isOut 0 = .ok (.iload_n 0, 1) := by decide +kernel
theorem dX4_isOut_1 : decode cX4_isOut 1 = .ok (.iconst 0, 1) := by decide +kernel
theorem dX4_isOut_2 : decode cX4_isOut 2 = .ok (.iconst 1, 1) := by decide +kernel
theorem dX4_isOut_3 : decode cX4_isOut 3 = .ok (.invokestatic 24, 3) := by decide +kernel
theorem dX4_isOut_6 : decode cX4_isOut 6 = .ok (.ireturn, 1) := by decide +kernel
set_option maxRecDepth 20000 in
theorem ggX4_isColour_X4_in : GoodIn wsX4_isColour wsX4_in := goodIn_r _ [4] (by decide +kernel) (by decide +kernel)
set_option maxRecDepth 20000 in
theorem gX4_isColour_X4_in : GoodIn wsX4_isColour (va_wsS RX4 24 yX4_in wsX4_in) := goodIn_app (goodIn_of _ (by decide +kernel)) ggX4_isColour_X4_in
theorem dX4_isColour_0 : decode cX4_isColour 0 = .ok (.iload_n 0, 1) := by decide +kernel
theorem dX4_isColour_1 : decode cX4_isColour 1 = .ok (.iconst 0, 1) := by decide +kernel
theorem dX4_isColour_2 : decode cX4_isColour 2 = .ok (.iconst 5, 1) := by decide +kernel
theorem dX4_isColour_3 : decode cX4_isColour 3 = .ok (.invokestatic 24, 3) := by decide +kernel
theorem dX4_isColour_6 : decode cX4_isColour 6 = .ok (.ireturn, 1) := by decide +kernel
set_option maxRecDepth 20000 in
theorem ggX4_rule_X4_in : GoodIn wsX4_rule wsX4_in := goodIn_r _ [5] (by decide +kernel) (by decide +kernel)
set_option maxRecDepth 20000 in
theorem gX4_rule_X4_in : GoodIn wsX4_rule (va_wsS RX4 24 yX4_in wsX4_in) := goodIn_app (goodIn_of _ (by decide +kernel)) ggX4_rule_X4_in
theorem dX4_rule_0 : decode cX4_rule 0 = .ok (.iload_n 1, 1) := by decide +kernel
theorem dX4_rule_1 : decode cX4_rule 1 = .ok (.iconst 0, 1) := by decide +kernel
theorem dX4_rule_2 : decode cX4_rule 2 = .ok (.iconst 5, 1) := by decide +kernel
theorem dX4_rule_3 : decode cX4_rule 3 = .ok (.invokestatic 24, 3) := by decide +kernel
theorem dX4_rule_6 : decode cX4_rule 6 = .ok (.ifCond .eq 59, 3) := by decide +kernel
theorem dX4_rule_9 : decode cX4_rule 9 = .ok (.iload_n 2, 1) := by decide +kernel
theorem dX4_rule_10 : decode cX4_rule 10 = .ok (.iload_n 1, 1) := by decide +kernel
theorem dX4_rule_11 : decode cX4_rule 11 = .ok (.iconst 1, 1) := by decide +kernel
theorem dX4_rule_12 : decode cX4_rule 12 = .ok (.if_icmp .eq 8, 3) := by decide +kernel
theorem dX4_rule_15 : decode cX4_rule 15 = .ok (.iload_n 1, 1) := by decide +kernel
theorem dX4_rule_16 : decode cX4_rule 16 = .ok (.iconst 3, 1) := by decide +kernel
theorem dX4_rule_17 : decode cX4_rule 17 = .ok (.if_icmp .ne 7, 3) := by decide +kernel
theorem dX4_rule_20 : decode cX4_rule 20 = .ok (.iconst 1, 1) := by decide +kernel
theorem dX4_rule_21 : decode cX4_rule 21 = .ok (.goto 4, 3) := by decide +kernel
theorem dX4_rule_24 : decode cX4_rule 24 = .ok (.iconst 0, 1) := by decide +kernel
theorem dX4_rule_25 : decode cX4_rule 25 = .ok (.iload_n 1, 1) := by decide +kernel
theorem dX4_rule_26 : decode cX4_rule 26 = .ok (.ifCond .ne 7, 3) := by decide +kernel
theorem dX4_rule_29 : decode cX4_rule 29 = .ok (.iconst 5, 1) := by decide +kernel
theorem dX4_rule_30 : decode cX4_rule 30 = .ok (.goto 29, 3) := by decide +kernel
theorem dX4_rule_33 : decode cX4_rule 33 = .ok (.iload_n 1, 1) := by decide +kernel
theorem dX4_rule_34 : decode cX4_rule 34 = .ok (.iconst 1, 1) := by decide +kernel
theorem dX4_rule_35 : decode cX4_rule 35 = .ok (.if_icmp .eq 8, 3) := by decide +kernel
theorem dX4_rule_38 : decode cX4_rule 38 = .ok (.iload_n 1, 1) := by decide +kernel
theorem dX4_rule_39 : decode cX4_rule 39 = .ok (.iconst 2, 1) := by decide +kernel
theorem dX4_rule_40 : decode cX4_rule 40 = .ok (.if_icmp .ne 8, 3) := by decide +kernel
theorem dX4_rule_43 : decode cX4_rule 43 = .ok (.bipush 20, 2) := by decide +kernel
theorem dX4_rule_45 : decode cX4_rule 45 = .ok (.goto 14, 3) := by decide +kernel
theorem dX4_rule_48 : decode cX4_rule 48 = .ok (.iload_n 1, 1) := by decide +kernel
theorem dX4_rule_49 : decode cX4_rule 49 = .ok (.iconst 3, 1) := by decide +kernel
theorem dX4_rule_50 : decode cX4_rule 50 = .ok (.if_icmp .ne 8, 3) := by decide +kernel
theorem dX4_rule_53 : decode cX4_rule 53 = .ok (.bipush 60, 2) := by decide +kernel
theorem dX4_rule_55 : decode cX4_rule 55 = .ok (.goto 4, 3) := by decide +kernel
theorem dX4_rule_58 : decode cX4_rule 58 = .ok (.iconst 1, 1) := by decide +kernel
theorem dX4_rule_59 : decode cX4_rule 59 = .ok (.invokestatic 24, 3) := by decide +kernel
theorem dX4_rule_62 : decode cX4_rule 62 = .ok (.ifCond .ne 6, 3) := by decide +kernel
theorem dX4_rule_65 : decode cX4_rule 65 = .ok (.bipush (-2), 2) := by decide +kernel
theorem dX4_rule_67 : decode cX4_rule 67 = .ok (.ireturn, 1) := by decide +kernel
theorem dX4_rule_68 : decode cX4_rule 68 = .ok (.aload_n 0, 1) := by decide +kernel
theorem dX4_rule_69 : decode cX4_rule 69 = .ok (.getfield 7, 3) := by decide +kernel
theorem dX4_rule_72 : decode cX4_rule 72 = .ok (.iload_n 1, 1) := by decide +kernel
theorem dX4_rule_73 : decode cX4_rule 73 = .ok (.iaload, 1) := by decide +kernel
theorem dX4_rule_74 : decode cX4_rule 74 = .ok (.istore_n 3, 1) := by decide +kernel
theorem dX4_rule_75 : decode cX4_rule 75 = .ok (.aload_n 0, 1) := by decide +kernel
theorem dX4_rule_76 : decode cX4_rule 76 = .ok (.getfield 7, 3) := by decide +kernel
theorem dX4_rule_79 : decode cX4_rule 79 = .ok (.iload_n 1, 1) := by decide +kernel
theorem dX4_rule_80 : decode cX4_rule 80 = .ok (.iload_n 2, 1) := by decide +kernel
theorem dX4_rule_81 : decode cX4_rule 81 = .ok (.iastore, 1) := by decide +kernel
theorem dX4_rule_82 : decode cX4_rule 82 = .ok (.iload_n 3, 1) := by decide +kernel
theorem dX4_rule_83 : decode cX4_rule 83 = .ok (.ireturn, 1) := by decide +kernel
set_option maxRecDepth 20000 in
theorem ggX4_isOnLine_X4_of : GoodIn wsX4_isOnLine wsX4_of := goodIn_r _ [5, 6, 7, 8, 4, 9, 10, 11, 12, 13, 14, 15, 16, 17] (by decide +kernel) (by decide +kernel)
set_option maxRecDepth 20000 in
theorem gX4_isOnLine_X4_of : GoodIn wsX4_isOnLine (wsV RX4 28 RX4 yX4_of wsX4_of) := goodIn_app (goodIn_of _ (by decide +kernel)) ggX4_isOnLine_X4_of
theorem dX4_isOnLine_0 : decode cX4_isOnLine 0 = .ok (.aload_n 0, 1) := by decide +kernel
theorem dX4_isOnLine_1 : decode cX4_isOnLine 1 = .ok (.iload_n 1, 1) := by decide +kernel
theorem dX4_isOnLine_2 : decode cX4_isOnLine 2 = .ok (.bipush 6, 2) := by decide +kernel
theorem dX4_isOnLine_4 : decode cX4_isOnLine 4 = .ok (.invokevirtual 28, 3) := by decide +kernel
theorem dX4_isOnLine_7 : decode cX4_isOnLine 7 = .ok (.iconst 1, 1) := by decide +kernel
theorem dX4_isOnLine_8 : decode cX4_isOnLine 8 = .ok (.if_icmp .ne 18, 3) := by decide +kernel
theorem dX4_isOnLine_11 : decode cX4_isOnLine 11 = .ok (.aload_n 0, 1) := by decide +kernel
theorem dX4_isOnLine_12 : decode cX4_isOnLine 12 = .ok (.iload_n 1, 1) := by decide +kernel
theorem dX4_isOnLine_13 : decode cX4_isOnLine 13 = .ok (.bipush 10, 2) := by decide +kernel
theorem dX4_isOnLine_15 : decode cX4_isOnLine 15 = .ok (.invokevirtual 28, 3) := by decide +kernel
theorem dX4_isOnLine_18 : decode cX4_isOnLine 18 = .ok (.iload_n 2, 1) := by decide +kernel
theorem dX4_isOnLine_19 : decode cX4_isOnLine 19 = .ok (.if_icmp .ne 7, 3) := by decide +kernel
theorem dX4_isOnLine_22 : decode cX4_isOnLine 22 = .ok (.iconst 1, 1) := by decide +kernel
theorem dX4_isOnLine_23 : decode cX4_isOnLine 23 = .ok (.goto 4, 3) := by decide +kernel
theorem dX4_isOnLine_26 : decode cX4_isOnLine 26 = .ok (.iconst 0, 1) := by decide +kernel
theorem dX4_isOnLine_27 : decode cX4_isOnLine 27 = .ok (.ireturn, 1) := by decide +kernel
set_option maxRecDepth 20000 in
theorem ggX4_line_X4_in : GoodIn wsX4_line wsX4_in := goodIn_r _ [5] (by decide +kernel) (by decide +kernel)
set_option maxRecDepth 20000 in
theorem gX4_line_X4_in : GoodIn wsX4_line (va_wsS RX4 24 yX4_in wsX4_in) := goodIn_app (goodIn_of _ (by decide +kernel)) ggX4_line_X4_in
set_option maxRecDepth 20000 in
theorem ggX4_line_X4_isOnLine : GoodIn wsX4_line wsX4_isOnLine := goodIn_r _ [9, 10, 11, 12, 4, 13, 1, 14, 15, 16, 17, 18, 19, 20, 21, 22, 23, 24] (by decide +kernel) (by decide +kernel)
set_option maxRecDepth 20000 in
theorem gX4_line_X4_isOnLine : GoodIn wsX4_line (wsV RX4 31 RX4 yX4_isOnLine wsX4_isOnLine) := goodIn_app (goodIn_of _ (by decide +kernel)) ggX4_line_X4_isOnLine
set_option maxRecDepth 20000 in
theorem ggX4_line_X4_of : GoodIn wsX4_line wsX4_of := goodIn_r _ [13, 1, 14, 15, 4, 16, 17, 18, 19, 20, 21, 22, 23, 24] (by decide +kernel) (by decide +kernel)
set_option maxRecDepth 20000 in
theorem gX4_line_X4_of : GoodIn wsX4_line (wsV RX4 28 RX4 yX4_of wsX4_of) := goodIn_app (goodIn_of _ (by decide +kernel)) ggX4_line_X4_of
theorem dX4_line_0 : decode cX4_line 0 = .ok (.iload_n 1, 1) := by decide +kernel
theorem dX4_line_1 : decode cX4_line 1 = .ok (.iconst 0, 1) := by decide +kernel
theorem dX4_line_2 : decode cX4_line 2 = .ok (.iconst 2, 1) := by decide +kernel
theorem dX4_line_3 : decode cX4_line 3 = .ok (.invokestatic 24, 3) := by decide +kernel
theorem dX4_line_6 : decode cX4_line 6 = .ok (.ifCond .ne 5, 3) := by decide +kernel
theorem dX4_line_9 : decode cX4_line 9 = .ok (.iconst (-1), 1) := by decide +kernel
theorem dX4_line_10 : decode cX4_line 10 = .ok (.ireturn, 1) := by decide +kernel
theorem dX4_line_11 : decode cX4_line 11 = .ok (.iload_n 2, 1) := by decide +kernel
theorem dX4_line_12 : decode cX4_line 12 = .ok (.iconst 0, 1) := by decide +kernel
theorem dX4_line_13 : decode cX4_line 13 = .ok (.bipush 60, 2) := by decide +kernel
theorem dX4_line_15 : decode cX4_line 15 = .ok (.invokestatic 24, 3) := by decide +kernel
theorem dX4_line_18 : decode cX4_line 18 = .ok (.ifCond .ne 6, 3) := by decide +kernel
theorem dX4_line_21 : decode cX4_line 21 = .ok (.bipush (-2), 2) := by decide +kernel
theorem dX4_line_23 : decode cX4_line 23 = .ok (.ireturn, 1) := by decide +kernel
theorem dX4_line_24 : decode cX4_line 24 = .ok (.iconst 0, 1) := by decide +kernel
theorem dX4_line_25 : decode cX4_line 25 = .ok (.istore_n 3, 1) := by decide +kernel
theorem dX4_line_26 : decode cX4_line 26 = .ok (.iload_n 3, 1) := by decide +kernel
theorem dX4_line_27 : decode cX4_line 27 = .ok (.aload_n 0, 1) := by decide +kernel
theorem dX4_line_28 : decode cX4_line 28 = .ok (.getfield 7, 3) := by decide +kernel
theorem dX4_line_31 : decode cX4_line 31 = .ok (.bipush 10, 2) := by decide +kernel
theorem dX4_line_33 : decode cX4_line 33 = .ok (.iaload, 1) := by decide +kernel
theorem dX4_line_34 : decode cX4_line 34 = .ok (.if_icmp .ge 44, 3) := by decide +kernel
theorem dX4_line_37 : decode cX4_line 37 = .ok (.aload_n 0, 1) := by decide +kernel
theorem dX4_line_38 : decode cX4_line 38 = .ok (.iload_n 3, 1) := by decide +kernel
theorem dX4_line_39 : decode cX4_line 39 = .ok (.iload_n 1, 1) := by decide +kernel
theorem dX4_line_40 : decode cX4_line 40 = .ok (.invokevirtual 31, 3) := by decide +kernel
theorem dX4_line_43 : decode cX4_line 43 = .ok (.ifCond .eq 29, 3) := by decide +kernel
theorem dX4_line_46 : decode cX4_line 46 = .ok (.aload_n 0, 1) := by decide +kernel
theorem dX4_line_47 : decode cX4_line 47 = .ok (.iload_n 3, 1) := by decide +kernel
theorem dX4_line_48 : decode cX4_line 48 = .ok (.iconst 5, 1) := by decide +kernel
theorem dX4_line_49 : decode cX4_line 49 = .ok (.invokevirtual 28, 3) := by decide +kernel
theorem dX4_line_52 : decode cX4_line 52 = .ok (.aload_n 0, 1) := by decide +kernel
theorem dX4_line_53 : decode cX4_line 53 = .ok (.iload_n 3, 1) := by decide +kernel
theorem dX4_line_54 : decode cX4_line 54 = .ok (.iconst 4, 1) := by decide +kernel
theorem dX4_line_55 : decode cX4_line 55 = .ok (.invokevirtual 28, 3) := by decide +kernel
theorem dX4_line_58 : decode cX4_line 58 = .ok (.iadd, 1) := by decide +kernel
theorem dX4_line_59 : decode cX4_line 59 = .ok (.aload_n 0, 1) := by decide +kernel
theorem dX4_line_60 : decode cX4_line 60 = .ok (.getfield 7, 3) := by decide +kernel
theorem dX4_line_63 : decode cX4_line 63 = .ok (.bipush 9, 2) := by decide +kernel
theorem dX4_line_65 : decode cX4_line 65 = .ok (.iaload, 1) := by decide +kernel
theorem dX4_line_66 : decode cX4_line 66 = .ok (.if_icmp .le 6, 3) := by decide +kernel
theorem dX4_line_69 : decode cX4_line 69 = .ok (.bipush (-5), 2) := by decide +kernel
theorem dX4_line_71 : decode cX4_line 71 = .ok (.ireturn, 1) := by decide +kernel
theorem dX4_line_72 : decode cX4_line 72 = .ok (.iinc 3 1, 3) := by decide +kernel
theorem dX4_line_75 : decode cX4_line 75 = .ok (.goto (-49), 3) := by decide +kernel
theorem dX4_line_78 : decode cX4_line 78 = .ok (.aload_n 0, 1) := by decide +kernel
theorem dX4_line_79 : decode cX4_line 79 = .ok (.getfield 7, 3) := by decide +kernel
theorem dX4_line_82 : decode cX4_line 82 = .ok (.bipush 6, 2) := by decide +kernel
theorem dX4_line_84 : decode cX4_line 84 = .ok (.iload_n 1, 1) := by decide +kernel
theorem dX4_line_85 : decode cX4_line 85 = .ok (.iadd, 1) := by decide +kernel
theorem dX4_line_86 : decode cX4_line 86 = .ok (.iaload, 1) := by decide +kernel
theorem dX4_line_87 : decode cX4_line 87 = .ok (.istore_n 3, 1) := by decide +kernel
theorem dX4_line_88 : decode cX4_line 88 = .ok (.aload_n 0, 1) := by decide +kernel
theorem dX4_line_89 : decode cX4_line 89 = .ok (.getfield 7, 3) := by decide +kernel
theorem dX4_line_92 : decode cX4_line 92 = .ok (.bipush 6, 2) := by decide +kernel
theorem dX4_line_94 : decode cX4_line 94 = .ok (.iload_n 1, 1) := by decide +kernel
theorem dX4_line_95 : decode cX4_line 95 = .ok (.iadd, 1) := by decide +kernel
theorem dX4_line_96 : decode cX4_line 96 = .ok (.iload_n 2, 1) := by decide +kernel
theorem dX4_line_97 : decode cX4_line 97 = .ok (.iastore, 1) := by decide +kernel
theorem dX4_line_98 : decode cX4_line 98 = .ok (.iload_n 3, 1) := by decide +kernel
theorem dX4_line_99 : decode cX4_line 99 = .ok (.ireturn, 1) := by decide +kernel
set_option maxRecDepth 20000 in
theorem ggX4_pass_X4_in : GoodIn wsX4_pass wsX4_in := goodIn_r _ [5] (by decide +kernel) (by decide +kernel)
set_option maxRecDepth 20000 in
theorem gX4_pass_X4_in : GoodIn wsX4_pass (va_wsS RX4 24 yX4_in wsX4_in) := goodIn_app (goodIn_of _ (by decide +kernel)) ggX4_pass_X4_in
theorem dX4_pass_0 : decode cX4_pass 0 = .ok (.iload_n 1, 1) := by decide +kernel
theorem dX4_pass_1 : decode cX4_pass 1 = .ok (.iconst 1, 1) := by decide +kernel
theorem dX4_pass_2 : decode cX4_pass 2 = .ok (.sipush 200, 3) := by decide +kernel
theorem dX4_pass_5 : decode cX4_pass 5 = .ok (.invokestatic 24, 3) := by decide +kernel
theorem dX4_pass_8 : decode cX4_pass 8 = .ok (.ifCond .ne 6, 3) := by decide +kernel
theorem dX4_pass_11 : decode cX4_pass 11 = .ok (.bipush (-2), 2) := by decide +kernel
theorem dX4_pass_13 : decode cX4_pass 13 = .ok (.ireturn, 1) := by decide +kernel
theorem dX4_pass_14 : decode cX4_pass 14 = .ok (.aload_n 0, 1) := by decide +kernel
theorem dX4_pass_15 : decode cX4_pass 15 = .ok (.getfield 7, 3) := by decide +kernel
theorem dX4_pass_18 : decode cX4_pass 18 = .ok (.bipush 9, 2) := by decide +kernel
theorem dX4_pass_20 : decode cX4_pass 20 = .ok (.dup2, 1) := by decide +kernel
theorem dX4_pass_21 : decode cX4_pass 21 = .ok (.iaload, 1) := by decide +kernel
theorem dX4_pass_22 : decode cX4_pass 22 = .ok (.iload_n 1, 1) := by decide +kernel
theorem dX4_pass_23 : decode cX4_pass 23 = .ok (.iadd, 1) := by decide +kernel
theorem dX4_pass_24 : decode cX4_pass 24 = .ok (.iastore, 1) := by decide +kernel
theorem dX4_pass_25 : decode cX4_pass 25 = .ok (.aload_n 0, 1) := by decide +kernel
theorem dX4_pass_26 : decode cX4_pass 26 = .ok (.getfield 7, 3) := by decide +kernel
theorem dX4_pass_29 : decode cX4_pass 29 = .ok (.bipush 9, 2) := by decide +kernel
theorem dX4_pass_31 : decode cX4_pass 31 = .ok (.iaload, 1) := by decide +kernel
theorem dX4_pass_32 : decode cX4_pass 32 = .ok (.ireturn, 1) := by decide +kernel
set_option maxRecDepth 20000 in
theorem ggX4_isOn_X4_of : GoodIn wsX4_isOn wsX4_of := goodIn_r _ [5, 6, 7, 8, 4, 9, 10, 11, 12, 13, 14, 15, 16, 17] (by decide +kernel) (by decide +kernel)
set_option maxRecDepth 20000 in
theorem gX4_isOn_X4_of : GoodIn wsX4_isOn (wsV RX4 28 RX4 yX4_of wsX4_of) := goodIn_app (goodIn_of _ (by decide +kernel)) ggX4_isOn_X4_of
theorem dX4_isOn_0 : decode cX4_isOn 0 = .ok (.aload_n 0, 1) := by decide +kernel
theorem dX4_isOn_1 : decode cX4_isOn 1 = .ok (.iload_n 1, 1) := by decide +kernel
theorem dX4_isOn_2 : decode cX4_isOn 2 = .ok (.iconst 0, 1) := by decide +kernel
theorem dX4_isOn_3 : decode cX4_isOn 3 = .ok (.invokevirtual 28, 3) := by decide +kernel
theorem dX4_isOn_6 : decode cX4_isOn 6 = .ok (.iload_n 2, 1) := by decide +kernel
theorem dX4_isOn_7 : decode cX4_isOn 7 = .ok (.if_icmp .ne 28, 3) := by decide +kernel
theorem dX4_isOn_10 : decode cX4_isOn 10 = .ok (.aload_n 0, 1) := by decide +kernel
theorem dX4_isOn_11 : decode cX4_isOn 11 = .ok (.iload_n 1, 1) := by decide +kernel
theorem dX4_isOn_12 : decode cX4_isOn 12 = .ok (.bipush 9, 2) := by decide +kernel
theorem dX4_isOn_14 : decode cX4_isOn 14 = .ok (.invokevirtual 28, 3) := by decide +kernel
theorem dX4_isOn_17 : decode cX4_isOn 17 = .ok (.ifCond .le 18, 3) := by decide +kernel
theorem dX4_isOn_20 : decode cX4_isOn 20 = .ok (.aload_n 0, 1) := by decide +kernel
theorem dX4_isOn_21 : decode cX4_isOn 21 = .ok (.iload_n 1, 1) := by decide +kernel
theorem dX4_isOn_22 : decode cX4_isOn 22 = .ok (.bipush 7, 2) := by decide +kernel
theorem dX4_isOn_24 : decode cX4_isOn 24 = .ok (.invokevirtual 28, 3) := by decide +kernel
theorem dX4_isOn_27 : decode cX4_isOn 27 = .ok (.iload_n 3, 1) := by decide +kernel
theorem dX4_isOn_28 : decode cX4_isOn 28 = .ok (.if_icmp .ne 7, 3) := by decide +kernel
theorem dX4_isOn_31 : decode cX4_isOn 31 = .ok (.iconst 1, 1) := by decide +kernel
theorem dX4_isOn_32 : decode cX4_isOn 32 = .ok (.goto 4, 3) := by decide +kernel
theorem dX4_isOn_35 : decode cX4_isOn 35 = .ok (.iconst 0, 1) := by decide +kernel
theorem dX4_isOn_36 : decode cX4_isOn 36 = .ok (.ireturn, 1) := by decide +kernel
theorem dX4_clash_0 : decode cX4_clash 0 = .ok (.iload_n 0, 1) := by decide +kernel
theorem dX4_clash_1 : decode cX4_clash 1 = .ok (.iload_n 2, 1) := by decide +kernel
theorem dX4_clash_2 : decode cX4_clash 2 = .ok (.iload_n 3, 1) := by decide +kernel
theorem dX4_clash_3 : decode cX4_clash 3 = .ok (.iadd, 1) := by decide +kernel
theorem dX4_clash_4 : decode cX4_clash 4 = .ok (.if_icmp .ge 14, 3) := by decide +kernel
theorem dX4_clash_7 : decode cX4_clash 7 = .ok (.iload_n 2, 1) := by decide +kernel
theorem dX4_clash_8 : decode cX4_clash 8 = .ok (.iload_n 0, 1) := by decide +kernel
theorem dX4_clash_9 : decode cX4_clash 9 = .ok (.iload_n 1, 1) := by decide +kernel
theorem dX4_clash_10 : decode cX4_clash 10 = .ok (.iadd, 1) := by decide +kernel
theorem dX4_clash_11 : decode cX4_clash 11 = .ok (.if_icmp .ge 7, 3) := by decide +kernel
theorem dX4_clash_14 : decode cX4_clash 14 = .ok (.iconst 1, 1) := by decide +kernel
theorem dX4_clash_15 : decode cX4_clash 15 = .ok (.goto 4, 3) := by decide +kernel
theorem dX4_clash_18 : decode cX4_clash 18 = .ok (.iconst 0, 1) := by decide +kernel
theorem dX4_clash_19 : decode cX4_clash 19 = .ok (.ireturn, 1) := by decide +kernel
set_option maxRecDepth 20000 in
theorem ggX4_isClear_X4_isOn : GoodIn wsX4_isClear wsX4_isOn := goodIn_r _ [6, 7, 8, 9, 5, 10, 1, 11, 12, 13, 17, 18, 19, 20, 21, 22, 23, 24] (by decide +kernel) (by decide +kernel)
set_option maxRecDepth 20000 in
theorem gX4_isClear_X4_isOn : GoodIn wsX4_isClear (wsV RX4 35 RX4 yX4_isOn wsX4_isOn) := goodIn_app (goodIn_of _ (by decide +kernel)) ggX4_isClear_X4_isOn
set_option maxRecDepth 20000 in
theorem ggX4_isClear_X4_of : GoodIn wsX4_isClear wsX4_of := goodIn_r _ [10, 1, 11, 12, 5, 13, 17, 18, 19, 20, 21, 22, 23, 24] (by decide +kernel) (by decide +kernel)
set_option maxRecDepth 20000 in
theorem gX4_isClear_X4_of : GoodIn wsX4_isClear (wsV RX4 28 RX4 yX4_of wsX4_of) := goodIn_app (goodIn_of _ (by decide +kernel)) ggX4_isClear_X4_of
set_option maxRecDepth 20000 in
theorem ggX4_isClear_X4_clash : GoodIn wsX4_isClear wsX4_clash := goodIn_r _ [16] (by decide +kernel) (by decide +kernel)
set_option maxRecDepth 20000 in
theorem gX4_isClear_X4_clash : GoodIn wsX4_isClear (va_wsS RX4 38 yX4_clash wsX4_clash) := goodIn_app (goodIn_of _ (by decide +kernel)) ggX4_isClear_X4_clash
theorem dX4_isClear_0 : decode cX4_isClear 0 = .ok (.iconst 0, 1) := by decide +kernel
theorem dX4_isClear_1 : decode cX4_isClear 1 = .ok (.istore 5, 2) := by decide +kernel
theorem dX4_isClear_3 : decode cX4_isClear 3 = .ok (.iload 5, 2) := by decide +kernel
theorem dX4_isClear_5 : decode cX4_isClear 5 = .ok (.aload_n 0, 1) := by decide +kernel
theorem dX4_isClear_6 : decode cX4_isClear 6 = .ok (.getfield 7, 3) := by decide +kernel
theorem dX4_isClear_9 : decode cX4_isClear 9 = .ok (.bipush 10, 2) := by decide +kernel
theorem dX4_isClear_11 : decode cX4_isClear 11 = .ok (.iaload, 1) := by decide +kernel
theorem dX4_isClear_12 : decode cX4_isClear 12 = .ok (.if_icmp .ge 47, 3) := by decide +kernel
theorem dX4_isClear_15 : decode cX4_isClear 15 = .ok (.aload_n 0, 1) := by decide +kernel
theorem dX4_isClear_16 : decode cX4_isClear 16 = .ok (.iload 5, 2) := by decide +kernel
theorem dX4_isClear_18 : decode cX4_isClear 18 = .ok (.iload_n 1, 1) := by decide +kernel
theorem dX4_isClear_19 : decode cX4_isClear 19 = .ok (.iload_n 2, 1) := by decide +kernel
theorem dX4_isClear_20 : decode cX4_isClear 20 = .ok (.invokevirtual 35, 3) := by decide +kernel
theorem dX4_isClear_23 : decode cX4_isClear 23 = .ok (.ifCond .eq 30, 3) := by decide +kernel
theorem dX4_isClear_26 : decode cX4_isClear 26 = .ok (.iload_n 3, 1) := by decide +kernel
theorem dX4_isClear_27 : decode cX4_isClear 27 = .ok (.iload 4, 2) := by decide +kernel
theorem dX4_isClear_29 : decode cX4_isClear 29 = .ok (.aload_n 0, 1) := by decide +kernel
theorem dX4_isClear_30 : decode cX4_isClear 30 = .ok (.iload 5, 2) := by decide +kernel
theorem dX4_isClear_32 : decode cX4_isClear 32 = .ok (.bipush 8, 2) := by decide +kernel
theorem dX4_isClear_34 : decode cX4_isClear 34 = .ok (.invokevirtual 28, 3) := by decide +kernel
theorem dX4_isClear_37 : decode cX4_isClear 37 = .ok (.aload_n 0, 1) := by decide +kernel
theorem dX4_isClear_38 : decode cX4_isClear 38 = .ok (.iload 5, 2) := by decide +kernel
theorem dX4_isClear_40 : decode cX4_isClear 40 = .ok (.bipush 9, 2) := by decide +kernel
theorem dX4_isClear_42 : decode cX4_isClear 42 = .ok (.invokevirtual 28, 3) := by decide +kernel
theorem dX4_isClear_45 : decode cX4_isClear 45 = .ok (.invokestatic 38, 3) := by decide +kernel
theorem dX4_isClear_48 : decode cX4_isClear 48 = .ok (.ifCond .eq 5, 3) := by decide +kernel
theorem dX4_isClear_51 : decode cX4_isClear 51 = .ok (.iconst 0, 1) := by decide +kernel
theorem dX4_isClear_52 : decode cX4_isClear 52 = .ok (.ireturn, 1) := by decide +kernel
theorem dX4_isClear_53 : decode cX4_isClear 53 = .ok (.iinc 5 1, 3) := by decide +kernel
theorem dX4_isClear_56 : decode cX4_isClear 56 = .ok (.goto (-53), 3) := by decide +kernel
theorem dX4_isClear_59 : decode cX4_isClear 59 = .ok (.iconst 1, 1) := by decide +kernel
theorem dX4_isClear_60 : decode cX4_isClear 60 = .ok (.ireturn, 1) := by decide +kernel
set_option maxRecDepth 20000 in
theorem ggX4_isLast_X4_isOn : GoodIn wsX4_isLast wsX4_isOn := goodIn_r _ [6, 7, 8, 9, 5, 10, 1, 11, 12, 13, 14, 15, 16, 17, 18, 19, 20, 21] (by decide +kernel) (by decide +kernel)
set_option maxRecDepth 20000 in
theorem gX4_isLast_X4_isOn : GoodIn wsX4_isLast (wsV RX4 35 RX4 yX4_isOn wsX4_isOn) := goodIn_app (goodIn_of _ (by decide +kernel)) ggX4_isLast_X4_isOn
set_option maxRecDepth 20000 in
theorem ggX4_isLast_X4_of : GoodIn wsX4_isLast wsX4_of := goodIn_r _ [10, 1, 11, 12, 5, 13, 14, 15, 16, 17, 18, 19, 20, 21] (by decide +kernel) (by decide +kernel)
set_option maxRecDepth 20000 in
theorem gX4_isLast_X4_of : GoodIn wsX4_isLast (wsV RX4 28 RX4 yX4_of wsX4_of) := goodIn_app (goodIn_of _ (by decide +kernel)) ggX4_isLast_X4_of
theorem dX4_isLast_0 : decode cX4_isLast 0 = .ok (.iconst 0, 1) := by decide +kernel
theorem dX4_isLast_1 : decode cX4_isLast 1 = .ok (.istore 4, 2) := by decide +kernel
theorem dX4_isLast_3 : decode cX4_isLast 3 = .ok (.iload 4, 2) := by decide +kernel
theorem dX4_isLast_5 : decode cX4_isLast 5 = .ok (.aload_n 0, 1) := by decide +kernel
theorem dX4_isLast_6 : decode cX4_isLast 6 = .ok (.getfield 7, 3) := by decide +kernel
theorem dX4_isLast_9 : decode cX4_isLast 9 = .ok (.bipush 10, 2) := by decide +kernel
theorem dX4_isLast_11 : decode cX4_isLast 11 = .ok (.iaload, 1) := by decide +kernel
theorem dX4_isLast_12 : decode cX4_isLast 12 = .ok (.if_icmp .ge 43, 3) := by decide +kernel
theorem dX4_isLast_15 : decode cX4_isLast 15 = .ok (.aload_n 0, 1) := by decide +kernel
theorem dX4_isLast_16 : decode cX4_isLast 16 = .ok (.iload 4, 2) := by decide +kernel
theorem dX4_isLast_18 : decode cX4_isLast 18 = .ok (.iload_n 1, 1) := by decide +kernel
theorem dX4_isLast_19 : decode cX4_isLast 19 = .ok (.iload_n 2, 1) := by decide +kernel
theorem dX4_isLast_20 : decode cX4_isLast 20 = .ok (.invokevirtual 35, 3) := by decide +kernel
theorem dX4_isLast_23 : decode cX4_isLast 23 = .ok (.ifCond .eq 26, 3) := by decide +kernel
theorem dX4_isLast_26 : decode cX4_isLast 26 = .ok (.aload_n 0, 1) := by decide +kernel
theorem dX4_isLast_27 : decode cX4_isLast 27 = .ok (.iload 4, 2) := by decide +kernel
theorem dX4_isLast_29 : decode cX4_isLast 29 = .ok (.bipush 8, 2) := by decide +kernel
theorem dX4_isLast_31 : decode cX4_isLast 31 = .ok (.invokevirtual 28, 3) := by decide +kernel
theorem dX4_isLast_34 : decode cX4_isLast 34 = .ok (.aload_n 0, 1) := by decide +kernel
theorem dX4_isLast_35 : decode cX4_isLast 35 = .ok (.iload 4, 2) := by decide +kernel
theorem dX4_isLast_37 : decode cX4_isLast 37 = .ok (.bipush 9, 2) := by decide +kernel
theorem dX4_isLast_39 : decode cX4_isLast 39 = .ok (.invokevirtual 28, 3) := by decide +kernel
theorem dX4_isLast_42 : decode cX4_isLast 42 = .ok (.iadd, 1) := by decide +kernel
theorem dX4_isLast_43 : decode cX4_isLast 43 = .ok (.iload_n 3, 1) := by decide +kernel
theorem dX4_isLast_44 : decode cX4_isLast 44 = .ok (.if_icmp .le 5, 3) := by decide +kernel
theorem dX4_isLast_47 : decode cX4_isLast 47 = .ok (.iconst 0, 1) := by decide +kernel
theorem dX4_isLast_48 : decode cX4_isLast 48 = .ok (.ireturn, 1) := by decide +kernel
theorem dX4_isLast_49 : decode cX4_isLast 49 = .ok (.iinc 4 1, 3) := by decide +kernel
theorem dX4_isLast_52 : decode cX4_isLast 52 = .ok (.goto (-49), 3) := by decide +kernel
theorem dX4_isLast_55 : decode cX4_isLast 55 = .ok (.iconst 1, 1) := by decide +kernel
theorem dX4_isLast_56 : decode cX4_isLast 56 = .ok (.ireturn, 1) := by decide +kernel
set_option maxRecDepth 20000 in
theorem ggX4_isFree_X4_isClear : GoodIn wsX4_isFree wsX4_isClear := goodIn_r _ [6, 1, 7, 8, 9, 5, 10, 11, 12, 13, 14, 15, 16, 17, 18, 19, 20, 25, 26, 27, 28, 29, 30, 31, 32] (by decide +kernel) (by decide +kernel)
set_option maxRecDepth 20000 in
theorem gX4_isFree_X4_isClear : GoodIn wsX4_isFree (wsV RX4 42 RX4 yX4_isClear wsX4_isClear) := goodIn_app (goodIn_of _ (by decide +kernel)) ggX4_isFree_X4_isClear
set_option maxRecDepth 20000 in
theorem ggX4_isFree_X4_isLast : GoodIn wsX4_isFree wsX4_isLast := goodIn_r _ [24, 1, 7, 8, 9, 5, 10, 11, 12, 13, 14, 15, 16, 17, 25, 26, 27, 28, 29, 30, 31, 32] (by decide +kernel) (by decide +kernel)
set_option maxRecDepth 20000 in
theorem gX4_isFree_X4_isLast : GoodIn wsX4_isFree (wsV RX4 45 RX4 yX4_isLast wsX4_isLast) := goodIn_app (goodIn_of _ (by decide +kernel)) ggX4_isFree_X4_isLast
theorem dX4_isFree_0 : decode cX4_isFree 0 = .ok (.aload_n 0, 1) := by decide +kernel
theorem dX4_isFree_1 : decode cX4_isFree 1 = .ok (.iload_n 1, 1) := by decide +kernel
theorem dX4_isFree_2 : decode cX4_isFree 2 = .ok (.iload_n 2, 1) := by decide +kernel
theorem dX4_isFree_3 : decode cX4_isFree 3 = .ok (.iload_n 3, 1) := by decide +kernel
theorem dX4_isFree_4 : decode cX4_isFree 4 = .ok (.iload 4, 2) := by decide +kernel
theorem dX4_isFree_6 : decode cX4_isFree 6 = .ok (.invokevirtual 42, 3) := by decide +kernel
theorem dX4_isFree_9 : decode cX4_isFree 9 = .ok (.ifCond .eq 27, 3) := by decide +kernel
theorem dX4_isFree_12 : decode cX4_isFree 12 = .ok (.aload_n 0, 1) := by decide +kernel
theorem dX4_isFree_13 : decode cX4_isFree 13 = .ok (.getfield 7, 3) := by decide +kernel
theorem dX4_isFree_16 : decode cX4_isFree 16 = .ok (.iconst 5, 1) := by decide +kernel
theorem dX4_isFree_17 : decode cX4_isFree 17 = .ok (.iaload, 1) := by decide +kernel
theorem dX4_isFree_18 : decode cX4_isFree 18 = .ok (.iconst 1, 1) := by decide +kernel
theorem dX4_isFree_19 : decode cX4_isFree 19 = .ok (.if_icmp .eq 13, 3) := by decide +kernel
theorem dX4_isFree_22 : decode cX4_isFree 22 = .ok (.aload_n 0, 1) := by decide +kernel
theorem dX4_isFree_23 : decode cX4_isFree 23 = .ok (.iload_n 1, 1) := by decide +kernel
theorem dX4_isFree_24 : decode cX4_isFree 24 = .ok (.iload_n 2, 1) := by decide +kernel
theorem dX4_isFree_25 : decode cX4_isFree 25 = .ok (.iload_n 3, 1) := by decide +kernel
theorem dX4_isFree_26 : decode cX4_isFree 26 = .ok (.invokevirtual 45, 3) := by decide +kernel
theorem dX4_isFree_29 : decode cX4_isFree 29 = .ok (.ifCond .eq 7, 3) := by decide +kernel
theorem dX4_isFree_32 : decode cX4_isFree 32 = .ok (.iconst 1, 1) := by decide +kernel
theorem dX4_isFree_33 : decode cX4_isFree 33 = .ok (.goto 4, 3) := by decide +kernel
theorem dX4_isFree_36 : decode cX4_isFree 36 = .ok (.iconst 0, 1) := by decide +kernel
theorem dX4_isFree_37 : decode cX4_isFree 37 = .ok (.ireturn, 1) := by decide +kernel
set_option maxRecDepth 20000 in
theorem ggX4_gap_X4_of : GoodIn wsX4_gap wsX4_of := goodIn_r _ [6, 1, 7, 8, 5, 9, 14, 15, 16, 17, 18, 19, 20, 21] (by decide +kernel) (by decide +kernel)
set_option maxRecDepth 20000 in
theorem gX4_gap_X4_of : GoodIn wsX4_gap (wsV RX4 28 RX4 yX4_of wsX4_of) := goodIn_app (goodIn_of _ (by decide +kernel)) ggX4_gap_X4_of
set_option maxRecDepth 20000 in
theorem ggX4_gap_X4_isOn : GoodIn wsX4_gap wsX4_isOn := goodIn_r _ [13, 2, 3, 4, 5, 6, 1, 7, 8, 9, 14, 15, 16, 17, 18, 19, 20, 21] (by decide +kernel) (by decide +kernel)
set_option maxRecDepth 20000 in
theorem gX4_gap_X4_isOn : GoodIn wsX4_gap (wsV RX4 35 RX4 yX4_isOn wsX4_isOn) := goodIn_app (goodIn_of _ (by decide +kernel)) ggX4_gap_X4_isOn
theorem dX4_gap_0 : decode cX4_gap 0 = .ok (.aload_n 0, 1) := by decide +kernel
theorem dX4_gap_1 : decode cX4_gap 1 = .ok (.getfield 7, 3) := by decide +kernel
theorem dX4_gap_4 : decode cX4_gap 4 = .ok (.bipush 9, 2) := by decide +kernel
theorem dX4_gap_6 : decode cX4_gap 6 = .ok (.iaload, 1) := by decide +kernel
theorem dX4_gap_7 : decode cX4_gap 7 = .ok (.istore 4, 2) := by decide +kernel
theorem dX4_gap_9 : decode cX4_gap 9 = .ok (.iconst 0, 1) := by decide +kernel
theorem dX4_gap_10 : decode cX4_gap 10 = .ok (.istore 5, 2) := by decide +kernel
theorem dX4_gap_12 : decode cX4_gap 12 = .ok (.iload 5, 2) := by decide +kernel
theorem dX4_gap_14 : decode cX4_gap 14 = .ok (.aload_n 0, 1) := by decide +kernel
theorem dX4_gap_15 : decode cX4_gap 15 = .ok (.getfield 7, 3) := by decide +kernel
theorem dX4_gap_18 : decode cX4_gap 18 = .ok (.bipush 10, 2) := by decide +kernel
theorem dX4_gap_20 : decode cX4_gap 20 = .ok (.iaload, 1) := by decide +kernel
theorem dX4_gap_21 : decode cX4_gap 21 = .ok (.if_icmp .ge 61, 3) := by decide +kernel
theorem dX4_gap_24 : decode cX4_gap 24 = .ok (.aload_n 0, 1) := by decide +kernel
theorem dX4_gap_25 : decode cX4_gap 25 = .ok (.iload 5, 2) := by decide +kernel
theorem dX4_gap_27 : decode cX4_gap 27 = .ok (.bipush 8, 2) := by decide +kernel
theorem dX4_gap_29 : decode cX4_gap 29 = .ok (.invokevirtual 28, 3) := by decide +kernel
theorem dX4_gap_32 : decode cX4_gap 32 = .ok (.aload_n 0, 1) := by decide +kernel
theorem dX4_gap_33 : decode cX4_gap 33 = .ok (.iload 5, 2) := by decide +kernel
theorem dX4_gap_35 : decode cX4_gap 35 = .ok (.bipush 9, 2) := by decide +kernel
theorem dX4_gap_37 : decode cX4_gap 37 = .ok (.invokevirtual 28, 3) := by decide +kernel
theorem dX4_gap_40 : decode cX4_gap 40 = .ok (.iadd, 1) := by decide +kernel
theorem dX4_gap_41 : decode cX4_gap 41 = .ok (.istore 6, 2) := by decide +kernel
theorem dX4_gap_43 : decode cX4_gap 43 = .ok (.aload_n 0, 1) := by decide +kernel
theorem dX4_gap_44 : decode cX4_gap 44 = .ok (.iload 5, 2) := by decide +kernel
theorem dX4_gap_46 : decode cX4_gap 46 = .ok (.iload_n 1, 1) := by decide +kernel
theorem dX4_gap_47 : decode cX4_gap 47 = .ok (.iload_n 2, 1) := by decide +kernel
theorem dX4_gap_48 : decode cX4_gap 48 = .ok (.invokevirtual 35, 3) := by decide +kernel
theorem dX4_gap_51 : decode cX4_gap 51 = .ok (.ifCond .eq 21, 3) := by decide +kernel
theorem dX4_gap_54 : decode cX4_gap 54 = .ok (.iload 6, 2) := by decide +kernel
theorem dX4_gap_56 : decode cX4_gap 56 = .ok (.iload_n 3, 1) := by decide +kernel
theorem dX4_gap_57 : decode cX4_gap 57 = .ok (.if_icmp .gt 15, 3) := by decide +kernel
theorem dX4_gap_60 : decode cX4_gap 60 = .ok (.iload 6, 2) := by decide +kernel
theorem dX4_gap_62 : decode cX4_gap 62 = .ok (.iload 4, 2) := by decide +kernel
theorem dX4_gap_64 : decode cX4_gap 64 = .ok (.if_icmp .le 8, 3) := by decide +kernel
theorem dX4_gap_67 : decode cX4_gap 67 = .ok (.iload 6, 2) := by decide +kernel
theorem dX4_gap_69 : decode cX4_gap 69 = .ok (.goto 5, 3) := by decide +kernel
theorem dX4_gap_72 : decode cX4_gap 72 = .ok (.iload 4, 2) := by decide +kernel
theorem dX4_gap_74 : decode cX4_gap 74 = .ok (.istore 4, 2) := by decide +kernel
theorem dX4_gap_76 : decode cX4_gap 76 = .ok (.iinc 5 1, 3) := by decide +kernel
theorem dX4_gap_79 : decode cX4_gap 79 = .ok (.goto (-67), 3) := by decide +kernel
theorem dX4_gap_82 : decode cX4_gap 82 = .ok (.iload_n 3, 1) := by decide +kernel
theorem dX4_gap_83 : decode cX4_gap 83 = .ok (.iload 4, 2) := by decide +kernel
theorem dX4_gap_85 : decode cX4_gap 85 = .ok (.isub, 1) := by decide +kernel
theorem dX4_gap_86 : decode cX4_gap 86 = .ok (.ireturn, 1) := by decide +kernel
theorem dX4_away_0 : decode cX4_away 0 = .ok (.iload_n 0, 1) := by decide +kernel
theorem dX4_away_1 : decode cX4_away 1 = .ok (.iload_n 1, 1) := by decide +kernel
theorem dX4_away_2 : decode cX4_away 2 = .ok (.if_icmp .ge 9, 3) := by decide +kernel
theorem dX4_away_5 : decode cX4_away 5 = .ok (.iload_n 1, 1) := by decide +kernel
theorem dX4_away_6 : decode cX4_away 6 = .ok (.iload_n 0, 1) := by decide +kernel
theorem dX4_away_7 : decode cX4_away 7 = .ok (.isub, 1) := by decide +kernel
theorem dX4_away_8 : decode cX4_away 8 = .ok (.goto 6, 3) := by decide +kernel
theorem dX4_away_11 : decode cX4_away 11 = .ok (.iload_n 0, 1) := by decide +kernel
theorem dX4_away_12 : decode cX4_away 12 = .ok (.iload_n 1, 1) := by decide +kernel
theorem dX4_away_13 : decode cX4_away 13 = .ok (.isub, 1) := by decide +kernel
theorem dX4_away_14 : decode cX4_away 14 = .ok (.ireturn, 1) := by decide +kernel
set_option maxRecDepth 20000 in
theorem ggX4_colourFor_X4_away : GoodIn wsX4_colourFor wsX4_away := goodIn_r _ [5] (by decide +kernel) (by decide +kernel)
set_option maxRecDepth 20000 in
theorem gX4_colourFor_X4_away : GoodIn wsX4_colourFor (va_wsS RX4 48 yX4_away wsX4_away) := goodIn_app (goodIn_of _ (by decide +kernel)) ggX4_colourFor_X4_away
set_option maxRecDepth 20000 in
theorem ggX4_colourFor_X4_isFree : GoodIn wsX4_colourFor wsX4_isFree := goodIn_r _ [9, 1, 10, 11, 12, 4, 13, 14, 15, 16, 17, 18, 19, 20, 21, 22, 23, 24, 25, 26, 27, 28, 29, 30, 31, 36, 37, 38, 39, 40, 41, 42, 43] (by decide +kernel) (by decide +kernel)
set_option maxRecDepth 20000 in
theorem gX4_colourFor_X4_isFree : GoodIn wsX4_colourFor (wsV RX4 51 RX4 yX4_isFree wsX4_isFree) := goodIn_app (goodIn_of _ (by decide +kernel)) ggX4_colourFor_X4_isFree
set_option maxRecDepth 20000 in
theorem ggX4_colourFor_X4_gap : GoodIn wsX4_colourFor wsX4_gap := goodIn_r _ [35, 1, 18, 19, 20, 4, 21, 22, 23, 24, 14, 15, 16, 17, 36, 37, 38, 39, 40, 41, 42, 43] (by decide +kernel) (by decide +kernel)
set_option maxRecDepth 20000 in
theorem gX4_colourFor_X4_gap : GoodIn wsX4_colourFor (wsV RX4 54 RX4 yX4_gap wsX4_gap) := goodIn_app (goodIn_of _ (by decide +kernel)) ggX4_colourFor_X4_gap
theorem dX4_colourFor_0 : decode cX4_colourFor 0 = .ok (.bipush (-6), 2) := by decide +kernel
theorem dX4_colourFor_2 : decode cX4_colourFor 2 = .ok (.istore 5, 2) := by decide +kernel
theorem dX4_colourFor_4 : decode cX4_colourFor 4 = .ok (.iconst 0, 1) := by decide +kernel
theorem dX4_colourFor_5 : decode cX4_colourFor 5 = .ok (.istore 6, 2) := by decide +kernel
theorem dX4_colourFor_7 : decode cX4_colourFor 7 = .ok (.iload 6, 2) := by decide +kernel
theorem dX4_colourFor_9 : decode cX4_colourFor 9 = .ok (.bipush 6, 2) := by decide +kernel
theorem dX4_colourFor_11 : decode cX4_colourFor 11 = .ok (.if_icmp .ge 99, 3) := by decide +kernel
theorem dX4_colourFor_14 : decode cX4_colourFor 14 = .ok (.iload 6, 2) := by decide +kernel
theorem dX4_colourFor_16 : decode cX4_colourFor 16 = .ok (.iload_n 2, 1) := by decide +kernel
theorem dX4_colourFor_17 : decode cX4_colourFor 17 = .ok (.invokestatic 48, 3) := by decide +kernel
theorem dX4_colourFor_20 : decode cX4_colourFor 20 = .ok (.aload_n 0, 1) := by decide +kernel
theorem dX4_colourFor_21 : decode cX4_colourFor 21 = .ok (.getfield 7, 3) := by decide +kernel
theorem dX4_colourFor_24 : decode cX4_colourFor 24 = .ok (.iconst 0, 1) := by decide +kernel
theorem dX4_colourFor_25 : decode cX4_colourFor 25 = .ok (.iaload, 1) := by decide +kernel
theorem dX4_colourFor_26 : decode cX4_colourFor 26 = .ok (.if_icmp .gt 78, 3) := by decide +kernel
theorem dX4_colourFor_29 : decode cX4_colourFor 29 = .ok (.aload_n 0, 1) := by decide +kernel
theorem dX4_colourFor_30 : decode cX4_colourFor 30 = .ok (.iload_n 1, 1) := by decide +kernel
theorem dX4_colourFor_31 : decode cX4_colourFor 31 = .ok (.iload 6, 2) := by decide +kernel
theorem dX4_colourFor_33 : decode cX4_colourFor 33 = .ok (.iload_n 3, 1) := by decide +kernel
theorem dX4_colourFor_34 : decode cX4_colourFor 34 = .ok (.iload 4, 2) := by decide +kernel
theorem dX4_colourFor_36 : decode cX4_colourFor 36 = .ok (.invokevirtual 51, 3) := by decide +kernel
theorem dX4_colourFor_39 : decode cX4_colourFor 39 = .ok (.ifCond .eq 65, 3) := by decide +kernel
theorem dX4_colourFor_42 : decode cX4_colourFor 42 = .ok (.iload 5, 2) := by decide +kernel
theorem dX4_colourFor_44 : decode cX4_colourFor 44 = .ok (.ifCond .ge 7, 3) := by decide +kernel
theorem dX4_colourFor_47 : decode cX4_colourFor 47 = .ok (.iconst (-1), 1) := by decide +kernel
theorem dX4_colourFor_48 : decode cX4_colourFor 48 = .ok (.goto 20, 3) := by decide +kernel
theorem dX4_colourFor_51 : decode cX4_colourFor 51 = .ok (.aload_n 0, 1) := by decide +kernel
theorem dX4_colourFor_52 : decode cX4_colourFor 52 = .ok (.iload_n 1, 1) := by decide +kernel
theorem dX4_colourFor_53 : decode cX4_colourFor 53 = .ok (.iload 6, 2) := by decide +kernel
theorem dX4_colourFor_55 : decode cX4_colourFor 55 = .ok (.iload_n 3, 1) := by decide +kernel
theorem dX4_colourFor_56 : decode cX4_colourFor 56 = .ok (.invokevirtual 54, 3) := by decide +kernel
theorem dX4_colourFor_59 : decode cX4_colourFor 59 = .ok (.aload_n 0, 1) := by decide +kernel
theorem dX4_colourFor_60 : decode cX4_colourFor 60 = .ok (.iload_n 1, 1) := by decide +kernel
theorem dX4_colourFor_61 : decode cX4_colourFor 61 = .ok (.iload 5, 2) := by decide +kernel
theorem dX4_colourFor_63 : decode cX4_colourFor 63 = .ok (.iload_n 3, 1) := by decide +kernel
theorem dX4_colourFor_64 : decode cX4_colourFor 64 = .ok (.invokevirtual 54, 3) := by decide +kernel
theorem dX4_colourFor_67 : decode cX4_colourFor 67 = .ok (.isub, 1) := by decide +kernel
theorem dX4_colourFor_68 : decode cX4_colourFor 68 = .ok (.istore 7, 2) := by decide +kernel
theorem dX4_colourFor_70 : decode cX4_colourFor 70 = .ok (.iload 7, 2) := by decide +kernel
theorem dX4_colourFor_72 : decode cX4_colourFor 72 = .ok (.ifCond .lt 23, 3) := by decide +kernel
theorem dX4_colourFor_75 : decode cX4_colourFor 75 = .ok (.iload 7, 2) := by decide +kernel
theorem dX4_colourFor_77 : decode cX4_colourFor 77 = .ok (.ifCond .ne 23, 3) := by decide +kernel
theorem dX4_colourFor_80 : decode cX4_colourFor 80 = .ok (.iload 6, 2) := by decide +kernel
theorem dX4_colourFor_82 : decode cX4_colourFor 82 = .ok (.iload_n 2, 1) := by decide +kernel
theorem dX4_colourFor_83 : decode cX4_colourFor 83 = .ok (.invokestatic 48, 3) := by decide +kernel
theorem dX4_colourFor_86 : decode cX4_colourFor 86 = .ok (.iload 5, 2) := by decide +kernel
theorem dX4_colourFor_88 : decode cX4_colourFor 88 = .ok (.iload_n 2, 1) := by decide +kernel
theorem dX4_colourFor_89 : decode cX4_colourFor 89 = .ok (.invokestatic 48, 3) := by decide +kernel
theorem dX4_colourFor_92 : decode cX4_colourFor 92 = .ok (.if_icmp .ge 8, 3) := by decide +kernel
theorem dX4_colourFor_95 : decode cX4_colourFor 95 = .ok (.iload 6, 2) := by decide +kernel
theorem dX4_colourFor_97 : decode cX4_colourFor 97 = .ok (.goto 5, 3) := by decide +kernel
theorem dX4_colourFor_100 : decode cX4_colourFor 100 = .ok (.iload 5, 2) := by decide +kernel
theorem dX4_colourFor_102 : decode cX4_colourFor 102 = .ok (.istore 5, 2) := by decide +kernel
theorem dX4_colourFor_104 : decode cX4_colourFor 104 = .ok (.iinc 6 1, 3) := by decide +kernel
theorem dX4_colourFor_107 : decode cX4_colourFor 107 = .ok (.goto (-100), 3) := by decide +kernel
theorem dX4_colourFor_110 : decode cX4_colourFor 110 = .ok (.iload 5, 2) := by decide +kernel
theorem dX4_colourFor_112 : decode cX4_colourFor 112 = .ok (.ireturn, 1) := by decide +kernel
set_option maxRecDepth 20000 in
theorem ggX4_isLineClear_X4_isOnLine : GoodIn wsX4_isLineClear wsX4_isOnLine := goodIn_r _ [6, 7, 8, 9, 5, 10, 1, 11, 12, 13, 17, 18, 19, 20, 21, 22, 23, 24] (by decide +kernel) (by decide +kernel)
set_option maxRecDepth 20000 in
theorem gX4_isLineClear_X4_isOnLine : GoodIn wsX4_isLineClear (wsV RX4 31 RX4 yX4_isOnLine wsX4_isOnLine) := goodIn_app (goodIn_of _ (by decide +kernel)) ggX4_isLineClear_X4_isOnLine
set_option maxRecDepth 20000 in
theorem ggX4_isLineClear_X4_of : GoodIn wsX4_isLineClear wsX4_of := goodIn_r _ [10, 1, 11, 12, 5, 13, 17, 18, 19, 20, 21, 22, 23, 24] (by decide +kernel) (by decide +kernel)
set_option maxRecDepth 20000 in
theorem gX4_isLineClear_X4_of : GoodIn wsX4_isLineClear (wsV RX4 28 RX4 yX4_of wsX4_of) := goodIn_app (goodIn_of _ (by decide +kernel)) ggX4_isLineClear_X4_of
set_option maxRecDepth 20000 in
theorem ggX4_isLineClear_X4_clash : GoodIn wsX4_isLineClear wsX4_clash := goodIn_r _ [16] (by decide +kernel) (by decide +kernel)
set_option maxRecDepth 20000 in
theorem gX4_isLineClear_X4_clash : GoodIn wsX4_isLineClear (va_wsS RX4 38 yX4_clash wsX4_clash) := goodIn_app (goodIn_of _ (by decide +kernel)) ggX4_isLineClear_X4_clash
theorem dX4_isLineClear_0 : decode cX4_isLineClear 0 = .ok (.iconst 0, 1) := by decide +kernel
theorem dX4_isLineClear_1 : decode cX4_isLineClear 1 = .ok (.istore 4, 2) := by decide +kernel
theorem dX4_isLineClear_3 : decode cX4_isLineClear 3 = .ok (.iload 4, 2) := by decide +kernel
theorem dX4_isLineClear_5 : decode cX4_isLineClear 5 = .ok (.aload_n 0, 1) := by decide +kernel
theorem dX4_isLineClear_6 : decode cX4_isLineClear 6 = .ok (.getfield 7, 3) := by decide +kernel
theorem dX4_isLineClear_9 : decode cX4_isLineClear 9 = .ok (.bipush 10, 2) := by decide +kernel
theorem dX4_isLineClear_11 : decode cX4_isLineClear 11 = .ok (.iaload, 1) := by decide +kernel
theorem dX4_isLineClear_12 : decode cX4_isLineClear 12 = .ok (.if_icmp .ge 43, 3) := by decide +kernel
theorem dX4_isLineClear_15 : decode cX4_isLineClear 15 = .ok (.aload_n 0, 1) := by decide +kernel
theorem dX4_isLineClear_16 : decode cX4_isLineClear 16 = .ok (.iload 4, 2) := by decide +kernel
theorem dX4_isLineClear_18 : decode cX4_isLineClear 18 = .ok (.iload_n 1, 1) := by decide +kernel
theorem dX4_isLineClear_19 : decode cX4_isLineClear 19 = .ok (.invokevirtual 31, 3) := by decide +kernel
theorem dX4_isLineClear_22 : decode cX4_isLineClear 22 = .ok (.ifCond .eq 27, 3) := by decide +kernel
theorem dX4_isLineClear_25 : decode cX4_isLineClear 25 = .ok (.iload_n 2, 1) := by decide +kernel
theorem dX4_isLineClear_26 : decode cX4_isLineClear 26 = .ok (.iload_n 3, 1) := by decide +kernel
theorem dX4_isLineClear_27 : decode cX4_isLineClear 27 = .ok (.aload_n 0, 1) := by decide +kernel
theorem dX4_isLineClear_28 : decode cX4_isLineClear 28 = .ok (.iload 4, 2) := by decide +kernel
theorem dX4_isLineClear_30 : decode cX4_isLineClear 30 = .ok (.iconst 5, 1) := by decide +kernel
theorem dX4_isLineClear_31 : decode cX4_isLineClear 31 = .ok (.invokevirtual 28, 3) := by decide +kernel
theorem dX4_isLineClear_34 : decode cX4_isLineClear 34 = .ok (.aload_n 0, 1) := by decide +kernel
theorem dX4_isLineClear_35 : decode cX4_isLineClear 35 = .ok (.iload 4, 2) := by decide +kernel
theorem dX4_isLineClear_37 : decode cX4_isLineClear 37 = .ok (.iconst 4, 1) := by decide +kernel
theorem dX4_isLineClear_38 : decode cX4_isLineClear 38 = .ok (.invokevirtual 28, 3) := by decide +kernel
theorem dX4_isLineClear_41 : decode cX4_isLineClear 41 = .ok (.invokestatic 38, 3) := by decide +kernel
theorem dX4_isLineClear_44 : decode cX4_isLineClear 44 = .ok (.ifCond .eq 5, 3) := by decide +kernel
theorem dX4_isLineClear_47 : decode cX4_isLineClear 47 = .ok (.iconst 0, 1) := by decide +kernel
theorem dX4_isLineClear_48 : decode cX4_isLineClear 48 = .ok (.ireturn, 1) := by decide +kernel
theorem dX4_isLineClear_49 : decode cX4_isLineClear 49 = .ok (.iinc 4 1, 3) := by decide +kernel
theorem dX4_isLineClear_52 : decode cX4_isLineClear 52 = .ok (.goto (-49), 3) := by decide +kernel
theorem dX4_isLineClear_55 : decode cX4_isLineClear 55 = .ok (.iconst 1, 1) := by decide +kernel
theorem dX4_isLineClear_56 : decode cX4_isLineClear 56 = .ok (.ireturn, 1) := by decide +kernel
theorem dX4_get_0 : decode cX4_get 0 = .ok (.aload_n 0, 1) := by decide +kernel
theorem dX4_get_1 : decode cX4_get 1 = .ok (.iload_n 1, 1) := by decide +kernel
theorem dX4_get_2 : decode cX4_get 2 = .ok (.putfield 58, 3) := by decide +kernel
theorem dX4_get_5 : decode cX4_get 5 = .ok (.aload_n 0, 1) := by decide +kernel
theorem dX4_get_6 : decode cX4_get 6 = .ok (.iload_n 2, 1) := by decide +kernel
theorem dX4_get_7 : decode cX4_get 7 = .ok (.putfield 62, 3) := by decide +kernel
theorem dX4_get_10 : decode cX4_get 10 = .ok (.aload_n 0, 1) := by decide +kernel
theorem dX4_get_11 : decode cX4_get 11 = .ok (.iload_n 3, 1) := by decide +kernel
theorem dX4_get_12 : decode cX4_get 12 = .ok (.putfield 65, 3) := by decide +kernel
theorem dX4_get_15 : decode cX4_get 15 = .ok (.aload_n 0, 1) := by decide +kernel
theorem dX4_get_16 : decode cX4_get 16 = .ok (.iload 4, 2) := by decide +kernel
theorem dX4_get_18 : decode cX4_get 18 = .ok (.putfield 68, 3) := by decide +kernel
theorem dX4_get_21 : decode cX4_get 21 = .ok (.aload_n 0, 1) := by decide +kernel
theorem dX4_get_22 : decode cX4_get 22 = .ok (.iload 5, 2) := by decide +kernel
theorem dX4_get_24 : decode cX4_get 24 = .ok (.putfield 71, 3) := by decide +kernel
theorem dX4_get_27 : decode cX4_get 27 = .ok (.return_, 1) := by decide +kernel
set_option maxRecDepth 20000 in
theorem ggX4_lineFor_X4_isLineClear : GoodIn wsX4_lineFor wsX4_isLineClear := goodIn_r _ [6, 1, 7, 8, 9, 5, 10, 11, 12, 13, 14, 15, 16, 17, 18, 19, 20, 48, 49, 50, 51, 52, 53, 54, 55] (by decide +kernel) (by decide +kernel)
set_option maxRecDepth 20000 in
theorem gX4_lineFor_X4_isLineClear : GoodIn wsX4_lineFor (wsV RX4 74 RX4 yX4_isLineClear wsX4_isLineClear) := goodIn_app (goodIn_of _ (by decide +kernel)) ggX4_lineFor_X4_isLineClear
set_option maxRecDepth 20000 in
theorem ggX4_lineFor_X4_colourFor : GoodIn wsX4_lineFor wsX4_colourFor := goodIn_r _ [24, 1, 25, 26, 5, 27, 28, 29, 30, 31, 32, 33, 34, 35, 36, 37, 38, 39, 11, 12, 13, 14, 15, 16, 17, 18, 19, 20, 40, 41, 42, 43, 44, 45, 46, 47, 48, 49, 50, 51, 52, 53, 54, 55] (by decide +kernel) (by decide +kernel)
set_option maxRecDepth 20000 in
theorem gX4_lineFor_X4_colourFor : GoodIn wsX4_lineFor (wsV RX4 77 RX4 yX4_colourFor wsX4_colourFor) := goodIn_app (goodIn_of _ (by decide +kernel)) ggX4_lineFor_X4_colourFor
theorem dX4_lineFor_0 : decode cX4_lineFor 0 = .ok (.bipush (-6), 2) := by decide +kernel
theorem dX4_lineFor_2 : decode cX4_lineFor 2 = .ok (.istore 5, 2) := by decide +kernel
theorem dX4_lineFor_4 : decode cX4_lineFor 4 = .ok (.iconst 0, 1) := by decide +kernel
theorem dX4_lineFor_5 : decode cX4_lineFor 5 = .ok (.istore 6, 2) := by decide +kernel
theorem dX4_lineFor_7 : decode cX4_lineFor 7 = .ok (.iload 6, 2) := by decide +kernel
theorem dX4_lineFor_9 : decode cX4_lineFor 9 = .ok (.iconst 3, 1) := by decide +kernel
theorem dX4_lineFor_10 : decode cX4_lineFor 10 = .ok (.if_icmp .ge 94, 3) := by decide +kernel
theorem dX4_lineFor_13 : decode cX4_lineFor 13 = .ok (.aload_n 0, 1) := by decide +kernel
theorem dX4_lineFor_14 : decode cX4_lineFor 14 = .ok (.getfield 7, 3) := by decide +kernel
theorem dX4_lineFor_17 : decode cX4_lineFor 17 = .ok (.bipush 6, 2) := by decide +kernel
theorem dX4_lineFor_19 : decode cX4_lineFor 19 = .ok (.iload 6, 2) := by decide +kernel
theorem dX4_lineFor_21 : decode cX4_lineFor 21 = .ok (.iadd, 1) := by decide +kernel
theorem dX4_lineFor_22 : decode cX4_lineFor 22 = .ok (.iaload, 1) := by decide +kernel
theorem dX4_lineFor_23 : decode cX4_lineFor 23 = .ok (.istore 7, 2) := by decide +kernel
theorem dX4_lineFor_25 : decode cX4_lineFor 25 = .ok (.iload 7, 2) := by decide +kernel
theorem dX4_lineFor_27 : decode cX4_lineFor 27 = .ok (.ifCond .le 34, 3) := by decide +kernel
theorem dX4_lineFor_30 : decode cX4_lineFor 30 = .ok (.aload_n 0, 1) := by decide +kernel
theorem dX4_lineFor_31 : decode cX4_lineFor 31 = .ok (.iload 6, 2) := by decide +kernel
theorem dX4_lineFor_33 : decode cX4_lineFor 33 = .ok (.iload_n 3, 1) := by decide +kernel
theorem dX4_lineFor_34 : decode cX4_lineFor 34 = .ok (.iload 4, 2) := by decide +kernel
theorem dX4_lineFor_36 : decode cX4_lineFor 36 = .ok (.invokevirtual 74, 3) := by decide +kernel
theorem dX4_lineFor_39 : decode cX4_lineFor 39 = .ok (.ifCond .eq 22, 3) := by decide +kernel
theorem dX4_lineFor_42 : decode cX4_lineFor 42 = .ok (.aload_n 0, 1) := by decide +kernel
theorem dX4_lineFor_43 : decode cX4_lineFor 43 = .ok (.iload_n 1, 1) := by decide +kernel
theorem dX4_lineFor_44 : decode cX4_lineFor 44 = .ok (.iload_n 2, 1) := by decide +kernel
theorem dX4_lineFor_45 : decode cX4_lineFor 45 = .ok (.iload_n 3, 1) := by decide +kernel
theorem dX4_lineFor_46 : decode cX4_lineFor 46 = .ok (.iload 7, 2) := by decide +kernel
theorem dX4_lineFor_48 : decode cX4_lineFor 48 = .ok (.iadd, 1) := by decide +kernel
theorem dX4_lineFor_49 : decode cX4_lineFor 49 = .ok (.iload 4, 2) := by decide +kernel
theorem dX4_lineFor_51 : decode cX4_lineFor 51 = .ok (.invokevirtual 77, 3) := by decide +kernel
theorem dX4_lineFor_54 : decode cX4_lineFor 54 = .ok (.ifCond .lt 7, 3) := by decide +kernel
theorem dX4_lineFor_57 : decode cX4_lineFor 57 = .ok (.iconst 1, 1) := by decide +kernel
theorem dX4_lineFor_58 : decode cX4_lineFor 58 = .ok (.goto 4, 3) := by decide +kernel
theorem dX4_lineFor_61 : decode cX4_lineFor 61 = .ok (.iconst 0, 1) := by decide +kernel
theorem dX4_lineFor_62 : decode cX4_lineFor 62 = .ok (.istore 8, 2) := by decide +kernel
theorem dX4_lineFor_64 : decode cX4_lineFor 64 = .ok (.iload 8, 2) := by decide +kernel
theorem dX4_lineFor_66 : decode cX4_lineFor 66 = .ok (.ifCond .eq 28, 3) := by decide +kernel
theorem dX4_lineFor_69 : decode cX4_lineFor 69 = .ok (.iload 5, 2) := by decide +kernel
theorem dX4_lineFor_71 : decode cX4_lineFor 71 = .ok (.ifCond .lt 18, 3) := by decide +kernel
theorem dX4_lineFor_74 : decode cX4_lineFor 74 = .ok (.iload 7, 2) := by decide +kernel
theorem dX4_lineFor_76 : decode cX4_lineFor 76 = .ok (.aload_n 0, 1) := by decide +kernel
theorem dX4_lineFor_77 : decode cX4_lineFor 77 = .ok (.getfield 7, 3) := by decide +kernel
theorem dX4_lineFor_80 : decode cX4_lineFor 80 = .ok (.bipush 6, 2) := by decide +kernel
theorem dX4_lineFor_82 : decode cX4_lineFor 82 = .ok (.iload 5, 2) := by decide +kernel
theorem dX4_lineFor_84 : decode cX4_lineFor 84 = .ok (.iadd, 1) := by decide +kernel
theorem dX4_lineFor_85 : decode cX4_lineFor 85 = .ok (.iaload, 1) := by decide +kernel
theorem dX4_lineFor_86 : decode cX4_lineFor 86 = .ok (.if_icmp .ge 8, 3) := by decide +kernel
theorem dX4_lineFor_89 : decode cX4_lineFor 89 = .ok (.iload 6, 2) := by decide +kernel
theorem dX4_lineFor_91 : decode cX4_lineFor 91 = .ok (.goto 5, 3) := by decide +kernel
theorem dX4_lineFor_94 : decode cX4_lineFor 94 = .ok (.iload 5, 2) := by decide +kernel
theorem dX4_lineFor_96 : decode cX4_lineFor 96 = .ok (.istore 5, 2) := by decide +kernel
theorem dX4_lineFor_98 : decode cX4_lineFor 98 = .ok (.iinc 6 1, 3) := by decide +kernel
theorem dX4_lineFor_101 : decode cX4_lineFor 101 = .ok (.goto (-94), 3) := by decide +kernel
theorem dX4_lineFor_104 : decode cX4_lineFor 104 = .ok (.iload 5, 2) := by decide +kernel
theorem dX4_lineFor_106 : decode cX4_lineFor 106 = .ok (.ireturn, 1) := by decide +kernel
set_option maxRecDepth 20000 in
theorem ggX4_pieceOf_X4_isFree : GoodIn wsX4_pieceOf wsX4_isFree := goodIn_r _ [5, 6, 7, 8, 9, 4, 10, 11, 12, 13, 14, 15, 16, 17, 18, 19, 20, 21, 22, 23, 24, 25, 26, 27, 28, 29, 30, 31, 32, 33, 34, 35, 36] (by decide +kernel) (by decide +kernel)
set_option maxRecDepth 20000 in
theorem gX4_pieceOf_X4_isFree : GoodIn wsX4_pieceOf (wsV RX4 51 RX4 yX4_isFree wsX4_isFree) := goodIn_app (goodIn_of _ (by decide +kernel)) ggX4_pieceOf_X4_isFree
theorem dX4_pieceOf_0 : decode cX4_pieceOf 0 = .ok (.iload 4, 2) := by decide +kernel
theorem dX4_pieceOf_2 : decode cX4_pieceOf 2 = .ok (.istore 5, 2) := by decide +kernel
theorem dX4_pieceOf_4 : decode cX4_pieceOf 4 = .ok (.iload 5, 2) := by decide +kernel
theorem dX4_pieceOf_6 : decode cX4_pieceOf 6 = .ok (.ifCond .le 52, 3) := by decide +kernel
theorem dX4_pieceOf_9 : decode cX4_pieceOf 9 = .ok (.iconst 0, 1) := by decide +kernel
theorem dX4_pieceOf_10 : decode cX4_pieceOf 10 = .ok (.istore 6, 2) := by decide +kernel
theorem dX4_pieceOf_12 : decode cX4_pieceOf 12 = .ok (.iload 6, 2) := by decide +kernel
theorem dX4_pieceOf_14 : decode cX4_pieceOf 14 = .ok (.iload 5, 2) := by decide +kernel
theorem dX4_pieceOf_16 : decode cX4_pieceOf 16 = .ok (.iadd, 1) := by decide +kernel
theorem dX4_pieceOf_17 : decode cX4_pieceOf 17 = .ok (.iload 4, 2) := by decide +kernel
theorem dX4_pieceOf_19 : decode cX4_pieceOf 19 = .ok (.if_icmp .gt 33, 3) := by decide +kernel
theorem dX4_pieceOf_22 : decode cX4_pieceOf 22 = .ok (.aload_n 0, 1) := by decide +kernel
theorem dX4_pieceOf_23 : decode cX4_pieceOf 23 = .ok (.iload_n 1, 1) := by decide +kernel
theorem dX4_pieceOf_24 : decode cX4_pieceOf 24 = .ok (.iload_n 2, 1) := by decide +kernel
theorem dX4_pieceOf_25 : decode cX4_pieceOf 25 = .ok (.iload_n 3, 1) := by decide +kernel
theorem dX4_pieceOf_26 : decode cX4_pieceOf 26 = .ok (.iload 6, 2) := by decide +kernel
theorem dX4_pieceOf_28 : decode cX4_pieceOf 28 = .ok (.iadd, 1) := by decide +kernel
theorem dX4_pieceOf_29 : decode cX4_pieceOf 29 = .ok (.iload 5, 2) := by decide +kernel
theorem dX4_pieceOf_31 : decode cX4_pieceOf 31 = .ok (.invokevirtual 51, 3) := by decide +kernel
theorem dX4_pieceOf_34 : decode cX4_pieceOf 34 = .ok (.ifCond .eq 12, 3) := by decide +kernel
theorem dX4_pieceOf_37 : decode cX4_pieceOf 37 = .ok (.bipush 100, 2) := by decide +kernel
theorem dX4_pieceOf_39 : decode cX4_pieceOf 39 = .ok (.iload 5, 2) := by decide +kernel
theorem dX4_pieceOf_41 : decode cX4_pieceOf 41 = .ok (.imul, 1) := by decide +kernel
theorem dX4_pieceOf_42 : decode cX4_pieceOf 42 = .ok (.iload 6, 2) := by decide +kernel
theorem dX4_pieceOf_44 : decode cX4_pieceOf 44 = .ok (.iadd, 1) := by decide +kernel
theorem dX4_pieceOf_45 : decode cX4_pieceOf 45 = .ok (.ireturn, 1) := by decide +kernel
theorem dX4_pieceOf_46 : decode cX4_pieceOf 46 = .ok (.iinc 6 1, 3) := by decide +kernel
theorem dX4_pieceOf_49 : decode cX4_pieceOf 49 = .ok (.goto (-37), 3) := by decide +kernel
theorem dX4_pieceOf_52 : decode cX4_pieceOf 52 = .ok (.iinc 5 (-1), 3) := by decide +kernel
theorem dX4_pieceOf_55 : decode cX4_pieceOf 55 = .ok (.goto (-51), 3) := by decide +kernel
theorem dX4_pieceOf_58 : decode cX4_pieceOf 58 = .ok (.iconst 0, 1) := by decide +kernel
theorem dX4_pieceOf_59 : decode cX4_pieceOf 59 = .ok (.ireturn, 1) := by decide +kernel
set_option maxRecDepth 20000 in
theorem ggX4_cut_X4_away : GoodIn wsX4_cut wsX4_away := goodIn_r _ [5] (by decide +kernel) (by decide +kernel)
set_option maxRecDepth 20000 in
theorem gX4_cut_X4_away : GoodIn wsX4_cut (va_wsS RX4 48 yX4_away wsX4_away) := goodIn_app (goodIn_of _ (by decide +kernel)) ggX4_cut_X4_away
set_option maxRecDepth 20000 in
theorem ggX4_cut_X4_pieceOf : GoodIn wsX4_cut wsX4_pieceOf := goodIn_r _ [9, 10, 11, 12, 4, 13, 1, 14, 15, 16, 17, 18, 19, 20, 21, 22, 23, 24, 25, 26, 27, 28, 29, 30, 31, 32, 33, 34, 35, 45, 46, 47, 48, 49, 50, 51, 52] (by decide +kernel) (by decide +kernel)
set_option maxRecDepth 20000 in
theorem gX4_cut_X4_pieceOf : GoodIn wsX4_cut (wsV RX4 81 RX4 yX4_pieceOf wsX4_pieceOf) := goodIn_app (goodIn_of _ (by decide +kernel)) ggX4_cut_X4_pieceOf
set_option maxRecDepth 20000 in
theorem ggX4_cut_X4_get : GoodIn wsX4_cut wsX4_get := goodIn_r _ [39, 40, 41, 42, 43, 44, 45, 46, 47, 48, 49, 50, 51, 52] (by decide +kernel) (by decide +kernel)
set_option maxRecDepth 20000 in
theorem gX4_cut_X4_get : GoodIn wsX4_cut (wsV RX4 84 RX4 yX4_get wsX4_get) := goodIn_app (goodIn_of _ (by decide +kernel)) ggX4_cut_X4_get
theorem dX4_cut_0 : decode cX4_cut 0 = .ok (.bipush (-6), 2) := by decide +kernel
theorem dX4_cut_2 : decode cX4_cut 2 = .ok (.istore 5, 2) := by decide +kernel
theorem dX4_cut_4 : decode cX4_cut 4 = .ok (.iconst 0, 1) := by decide +kernel
theorem dX4_cut_5 : decode cX4_cut 5 = .ok (.istore 6, 2) := by decide +kernel
theorem dX4_cut_7 : decode cX4_cut 7 = .ok (.iconst 0, 1) := by decide +kernel
theorem dX4_cut_8 : decode cX4_cut 8 = .ok (.istore 7, 2) := by decide +kernel
theorem dX4_cut_10 : decode cX4_cut 10 = .ok (.iload 7, 2) := by decide +kernel
theorem dX4_cut_12 : decode cX4_cut 12 = .ok (.bipush 6, 2) := by decide +kernel
theorem dX4_cut_14 : decode cX4_cut 14 = .ok (.if_icmp .ge 90, 3) := by decide +kernel
theorem dX4_cut_17 : decode cX4_cut 17 = .ok (.iload 7, 2) := by decide +kernel
theorem dX4_cut_19 : decode cX4_cut 19 = .ok (.iload_n 2, 1) := by decide +kernel
theorem dX4_cut_20 : decode cX4_cut 20 = .ok (.invokestatic 48, 3) := by decide +kernel
theorem dX4_cut_23 : decode cX4_cut 23 = .ok (.aload_n 0, 1) := by decide +kernel
theorem dX4_cut_24 : decode cX4_cut 24 = .ok (.getfield 7, 3) := by decide +kernel
theorem dX4_cut_27 : decode cX4_cut 27 = .ok (.iconst 0, 1) := by decide +kernel
theorem dX4_cut_28 : decode cX4_cut 28 = .ok (.iaload, 1) := by decide +kernel
theorem dX4_cut_29 : decode cX4_cut 29 = .ok (.if_icmp .gt 69, 3) := by decide +kernel
theorem dX4_cut_32 : decode cX4_cut 32 = .ok (.aload_n 0, 1) := by decide +kernel
theorem dX4_cut_33 : decode cX4_cut 33 = .ok (.iload_n 1, 1) := by decide +kernel
theorem dX4_cut_34 : decode cX4_cut 34 = .ok (.iload 7, 2) := by decide +kernel
theorem dX4_cut_36 : decode cX4_cut 36 = .ok (.iload_n 3, 1) := by decide +kernel
theorem dX4_cut_37 : decode cX4_cut 37 = .ok (.iload 4, 2) := by decide +kernel
theorem dX4_cut_39 : decode cX4_cut 39 = .ok (.invokevirtual 81, 3) := by decide +kernel
theorem dX4_cut_42 : decode cX4_cut 42 = .ok (.istore 8, 2) := by decide +kernel
theorem dX4_cut_44 : decode cX4_cut 44 = .ok (.iload 5, 2) := by decide +kernel
theorem dX4_cut_46 : decode cX4_cut 46 = .ok (.ifCond .lt 44, 3) := by decide +kernel
theorem dX4_cut_49 : decode cX4_cut 49 = .ok (.iload 8, 2) := by decide +kernel
theorem dX4_cut_51 : decode cX4_cut 51 = .ok (.bipush 100, 2) := by decide +kernel
theorem dX4_cut_53 : decode cX4_cut 53 = .ok (.idiv, 1) := by decide +kernel
theorem dX4_cut_54 : decode cX4_cut 54 = .ok (.iload 6, 2) := by decide +kernel
theorem dX4_cut_56 : decode cX4_cut 56 = .ok (.bipush 100, 2) := by decide +kernel
theorem dX4_cut_58 : decode cX4_cut 58 = .ok (.idiv, 1) := by decide +kernel
theorem dX4_cut_59 : decode cX4_cut 59 = .ok (.if_icmp .gt 31, 3) := by decide +kernel
theorem dX4_cut_62 : decode cX4_cut 62 = .ok (.iload 8, 2) := by decide +kernel
theorem dX4_cut_64 : decode cX4_cut 64 = .ok (.bipush 100, 2) := by decide +kernel
theorem dX4_cut_66 : decode cX4_cut 66 = .ok (.idiv, 1) := by decide +kernel
theorem dX4_cut_67 : decode cX4_cut 67 = .ok (.iload 6, 2) := by decide +kernel
theorem dX4_cut_69 : decode cX4_cut 69 = .ok (.bipush 100, 2) := by decide +kernel
theorem dX4_cut_71 : decode cX4_cut 71 = .ok (.idiv, 1) := by decide +kernel
theorem dX4_cut_72 : decode cX4_cut 72 = .ok (.if_icmp .ne 26, 3) := by decide +kernel
theorem dX4_cut_75 : decode cX4_cut 75 = .ok (.iload 7, 2) := by decide +kernel
theorem dX4_cut_77 : decode cX4_cut 77 = .ok (.iload_n 2, 1) := by decide +kernel
theorem dX4_cut_78 : decode cX4_cut 78 = .ok (.invokestatic 48, 3) := by decide +kernel
theorem dX4_cut_81 : decode cX4_cut 81 = .ok (.iload 5, 2) := by decide +kernel
theorem dX4_cut_83 : decode cX4_cut 83 = .ok (.iload_n 2, 1) := by decide +kernel
theorem dX4_cut_84 : decode cX4_cut 84 = .ok (.invokestatic 48, 3) := by decide +kernel
theorem dX4_cut_87 : decode cX4_cut 87 = .ok (.if_icmp .ge 11, 3) := by decide +kernel
theorem dX4_cut_90 : decode cX4_cut 90 = .ok (.iload 7, 2) := by decide +kernel
theorem dX4_cut_92 : decode cX4_cut 92 = .ok (.istore 5, 2) := by decide +kernel
theorem dX4_cut_94 : decode cX4_cut 94 = .ok (.iload 8, 2) := by decide +kernel
theorem dX4_cut_96 : decode cX4_cut 96 = .ok (.istore 6, 2) := by decide +kernel
theorem dX4_cut_98 : decode cX4_cut 98 = .ok (.iinc 7 1, 3) := by decide +kernel
theorem dX4_cut_101 : decode cX4_cut 101 = .ok (.goto (-91), 3) := by decide +kernel
theorem dX4_cut_104 : decode cX4_cut 104 = .ok (.iload 6, 2) := by decide +kernel
theorem dX4_cut_106 : decode cX4_cut 106 = .ok (.bipush 100, 2) := by decide +kernel
theorem dX4_cut_108 : decode cX4_cut 108 = .ok (.idiv, 1) := by decide +kernel
theorem dX4_cut_109 : decode cX4_cut 109 = .ok (.aload_n 0, 1) := by decide +kernel
theorem dX4_cut_110 : decode cX4_cut 110 = .ok (.getfield 7, 3) := by decide +kernel
theorem dX4_cut_113 : decode cX4_cut 113 = .ok (.iconst 3, 1) := by decide +kernel
theorem dX4_cut_114 : decode cX4_cut 114 = .ok (.iaload, 1) := by decide +kernel
theorem dX4_cut_115 : decode cX4_cut 115 = .ok (.if_icmp .lt 24, 3) := by decide +kernel
theorem dX4_cut_118 : decode cX4_cut 118 = .ok (.aload_n 0, 1) := by decide +kernel
theorem dX4_cut_119 : decode cX4_cut 119 = .ok (.iconst 2, 1) := by decide +kernel
theorem dX4_cut_120 : decode cX4_cut 120 = .ok (.iload 5, 2) := by decide +kernel
theorem dX4_cut_122 : decode cX4_cut 122 = .ok (.iload_n 3, 1) := by decide +kernel
theorem dX4_cut_123 : decode cX4_cut 123 = .ok (.iload 6, 2) := by decide +kernel
theorem dX4_cut_125 : decode cX4_cut 125 = .ok (.bipush 100, 2) := by decide +kernel
theorem dX4_cut_127 : decode cX4_cut 127 = .ok (.irem, 1) := by decide +kernel
theorem dX4_cut_128 : decode cX4_cut 128 = .ok (.iadd, 1) := by decide +kernel
theorem dX4_cut_129 : decode cX4_cut 129 = .ok (.iload 6, 2) := by decide +kernel
theorem dX4_cut_131 : decode cX4_cut 131 = .ok (.bipush 100, 2) := by decide +kernel
theorem dX4_cut_133 : decode cX4_cut 133 = .ok (.idiv, 1) := by decide +kernel
theorem dX4_cut_134 : decode cX4_cut 134 = .ok (.bipush (-6), 2) := by decide +kernel
theorem dX4_cut_136 : decode cX4_cut 136 = .ok (.invokevirtual 84, 3) := by decide +kernel
theorem dX4_cut_139 : decode cX4_cut 139 = .ok (.return_, 1) := by decide +kernel
set_option maxRecDepth 20000 in
theorem ggX4_place_X4_colourFor : GoodIn wsX4_place wsX4_colourFor := goodIn_r _ [6, 1, 7, 8, 5, 9, 10, 11, 12, 13, 14, 15, 16, 17, 18, 19, 20, 21, 22, 23, 24, 25, 26, 27, 28, 29, 30, 31, 32, 33, 34, 35, 36, 37, 38, 39, 69, 70, 71, 72, 73, 74, 75, 76] (by decide +kernel) (by decide +kernel)
set_option maxRecDepth 20000 in
theorem gX4_place_X4_colourFor : GoodIn wsX4_place (wsV RX4 77 RX4 yX4_colourFor wsX4_colourFor) := goodIn_app (goodIn_of _ (by decide +kernel)) ggX4_place_X4_colourFor
set_option maxRecDepth 20000 in
theorem ggX4_place_X4_get : GoodIn wsX4_place wsX4_get := goodIn_r _ [43, 44, 45, 46, 47, 48, 69, 70, 71, 72, 73, 74, 75, 76] (by decide +kernel) (by decide +kernel)
set_option maxRecDepth 20000 in
theorem gX4_place_X4_get : GoodIn wsX4_place (wsV RX4 84 RX4 yX4_get wsX4_get) := goodIn_app (goodIn_of _ (by decide +kernel)) ggX4_place_X4_get
set_option maxRecDepth 20000 in
theorem ggX4_place_X4_lineFor : GoodIn wsX4_place wsX4_lineFor := goodIn_r _ [52, 1, 53, 54, 55, 5, 56, 57, 58, 59, 60, 22, 23, 24, 25, 26, 27, 28, 29, 30, 31, 2, 3, 4, 6, 7, 8, 9, 10, 11, 12, 13, 14, 15, 16, 17, 18, 19, 20, 21, 32, 33, 34, 35, 36, 37, 38, 39, 69, 70, 71, 72, 73, 74, 75, 76] (by decide +kernel) (by decide +kernel)
set_option maxRecDepth 20000 in
theorem gX4_place_X4_lineFor : GoodIn wsX4_place (wsV RX4 88 RX4 yX4_lineFor wsX4_lineFor) := goodIn_app (goodIn_of _ (by decide +kernel)) ggX4_place_X4_lineFor
set_option maxRecDepth 20000 in
theorem ggX4_place_X4_cut : GoodIn wsX4_place wsX4_cut := goodIn_r _ [64, 1, 7, 8, 5, 9, 65, 66, 67, 68, 10, 11, 12, 13, 14, 15, 16, 17, 18, 19, 20, 21, 22, 23, 24, 25, 26, 27, 28, 29, 30, 31, 32, 33, 34, 35, 40, 41, 42, 43, 44, 45, 46, 47, 48, 69, 70, 71, 72, 73, 74, 75, 76] (by decide +kernel) (by decide +kernel)
set_option maxRecDepth 20000 in
theorem gX4_place_X4_cut : GoodIn wsX4_place (wsV RX4 91 RX4 yX4_cut wsX4_cut) := goodIn_app (goodIn_of _ (by decide +kernel)) ggX4_place_X4_cut
theorem dX4_place_0 : decode cX4_place 0 = .ok (.aload_n 0, 1) := by decide +kernel
theorem dX4_place_1 : decode cX4_place 1 = .ok (.iload_n 1, 1) := by decide +kernel
theorem dX4_place_2 : decode cX4_place 2 = .ok (.iload_n 2, 1) := by decide +kernel
theorem dX4_place_3 : decode cX4_place 3 = .ok (.iload_n 3, 1) := by decide +kernel
theorem dX4_place_4 : decode cX4_place 4 = .ok (.iload 4, 2) := by decide +kernel
theorem dX4_place_6 : decode cX4_place 6 = .ok (.invokevirtual 77, 3) := by decide +kernel
theorem dX4_place_9 : decode cX4_place 9 = .ok (.istore 5, 2) := by decide +kernel
theorem dX4_place_11 : decode cX4_place 11 = .ok (.iload 5, 2) := by decide +kernel
theorem dX4_place_13 : decode cX4_place 13 = .ok (.ifCond .lt 16, 3) := by decide +kernel
theorem dX4_place_16 : decode cX4_place 16 = .ok (.aload_n 0, 1) := by decide +kernel
theorem dX4_place_17 : decode cX4_place 17 = .ok (.iconst 0, 1) := by decide +kernel
theorem dX4_place_18 : decode cX4_place 18 = .ok (.iload 5, 2) := by decide +kernel
theorem dX4_place_20 : decode cX4_place 20 = .ok (.iload_n 3, 1) := by decide +kernel
theorem dX4_place_21 : decode cX4_place 21 = .ok (.iload 4, 2) := by decide +kernel
theorem dX4_place_23 : decode cX4_place 23 = .ok (.bipush (-6), 2) := by decide +kernel
theorem dX4_place_25 : decode cX4_place 25 = .ok (.invokevirtual 84, 3) := by decide +kernel
theorem dX4_place_28 : decode cX4_place 28 = .ok (.return_, 1) := by decide +kernel
theorem dX4_place_29 : decode cX4_place 29 = .ok (.aload_n 0, 1) := by decide +kernel
theorem dX4_place_30 : decode cX4_place 30 = .ok (.iload_n 1, 1) := by decide +kernel
theorem dX4_place_31 : decode cX4_place 31 = .ok (.iload_n 2, 1) := by decide +kernel
theorem dX4_place_32 : decode cX4_place 32 = .ok (.iload_n 3, 1) := by decide +kernel
theorem dX4_place_33 : decode cX4_place 33 = .ok (.iload 4, 2) := by decide +kernel
theorem dX4_place_35 : decode cX4_place 35 = .ok (.invokevirtual 88, 3) := by decide +kernel
theorem dX4_place_38 : decode cX4_place 38 = .ok (.istore 6, 2) := by decide +kernel
theorem dX4_place_40 : decode cX4_place 40 = .ok (.iload 6, 2) := by decide +kernel
theorem dX4_place_42 : decode cX4_place 42 = .ok (.ifCond .lt 39, 3) := by decide +kernel
theorem dX4_place_45 : decode cX4_place 45 = .ok (.iload_n 3, 1) := by decide +kernel
theorem dX4_place_46 : decode cX4_place 46 = .ok (.aload_n 0, 1) := by decide +kernel
theorem dX4_place_47 : decode cX4_place 47 = .ok (.getfield 7, 3) := by decide +kernel
theorem dX4_place_50 : decode cX4_place 50 = .ok (.bipush 6, 2) := by decide +kernel
theorem dX4_place_52 : decode cX4_place 52 = .ok (.iload 6, 2) := by decide +kernel
theorem dX4_place_54 : decode cX4_place 54 = .ok (.iadd, 1) := by decide +kernel
theorem dX4_place_55 : decode cX4_place 55 = .ok (.iaload, 1) := by decide +kernel
theorem dX4_place_56 : decode cX4_place 56 = .ok (.iadd, 1) := by decide +kernel
theorem dX4_place_57 : decode cX4_place 57 = .ok (.istore 7, 2) := by decide +kernel
theorem dX4_place_59 : decode cX4_place 59 = .ok (.aload_n 0, 1) := by decide +kernel
theorem dX4_place_60 : decode cX4_place 60 = .ok (.iconst 1, 1) := by decide +kernel
theorem dX4_place_61 : decode cX4_place 61 = .ok (.aload_n 0, 1) := by decide +kernel
theorem dX4_place_62 : decode cX4_place 62 = .ok (.iload_n 1, 1) := by decide +kernel
theorem dX4_place_63 : decode cX4_place 63 = .ok (.iload_n 2, 1) := by decide +kernel
theorem dX4_place_64 : decode cX4_place 64 = .ok (.iload 7, 2) := by decide +kernel
theorem dX4_place_66 : decode cX4_place 66 = .ok (.iload 4, 2) := by decide +kernel
theorem dX4_place_68 : decode cX4_place 68 = .ok (.invokevirtual 77, 3) := by decide +kernel
theorem dX4_place_71 : decode cX4_place 71 = .ok (.iload 7, 2) := by decide +kernel
theorem dX4_place_73 : decode cX4_place 73 = .ok (.iload 4, 2) := by decide +kernel
theorem dX4_place_75 : decode cX4_place 75 = .ok (.iload 6, 2) := by decide +kernel
theorem dX4_place_77 : decode cX4_place 77 = .ok (.invokevirtual 84, 3) := by decide +kernel
theorem dX4_place_80 : decode cX4_place 80 = .ok (.return_, 1) := by decide +kernel
theorem dX4_place_81 : decode cX4_place 81 = .ok (.aload_n 0, 1) := by decide +kernel
theorem dX4_place_82 : decode cX4_place 82 = .ok (.iconst 3, 1) := by decide +kernel
theorem dX4_place_83 : decode cX4_place 83 = .ok (.bipush (-6), 2) := by decide +kernel
theorem dX4_place_85 : decode cX4_place 85 = .ok (.bipush (-6), 2) := by decide +kernel
theorem dX4_place_87 : decode cX4_place 87 = .ok (.iconst 0, 1) := by decide +kernel
theorem dX4_place_88 : decode cX4_place 88 = .ok (.bipush (-6), 2) := by decide +kernel
theorem dX4_place_90 : decode cX4_place 90 = .ok (.invokevirtual 84, 3) := by decide +kernel
theorem dX4_place_93 : decode cX4_place 93 = .ok (.aload_n 0, 1) := by decide +kernel
theorem dX4_place_94 : decode cX4_place 94 = .ok (.getfield 7, 3) := by decide +kernel
theorem dX4_place_97 : decode cX4_place 97 = .ok (.iconst 4, 1) := by decide +kernel
theorem dX4_place_98 : decode cX4_place 98 = .ok (.iaload, 1) := by decide +kernel
theorem dX4_place_99 : decode cX4_place 99 = .ok (.iconst 1, 1) := by decide +kernel
theorem dX4_place_100 : decode cX4_place 100 = .ok (.if_icmp .ne 12, 3) := by decide +kernel
theorem dX4_place_103 : decode cX4_place 103 = .ok (.aload_n 0, 1) := by decide +kernel
theorem dX4_place_104 : decode cX4_place 104 = .ok (.iload_n 1, 1) := by decide +kernel
theorem dX4_place_105 : decode cX4_place 105 = .ok (.iload_n 2, 1) := by decide +kernel
theorem dX4_place_106 : decode cX4_place 106 = .ok (.iload_n 3, 1) := by decide +kernel
theorem dX4_place_107 : decode cX4_place 107 = .ok (.iload 4, 2) := by decide +kernel
theorem dX4_place_109 : decode cX4_place 109 = .ok (.invokevirtual 91, 3) := by decide +kernel
theorem dX4_place_112 : decode cX4_place 112 = .ok (.return_, 1) := by decide +kernel
theorem dX4_comes_0 : decode cX4_comes 0 = .ok (.aload_n 0, 1) := by decide +kernel
theorem dX4_comes_1 : decode cX4_comes 1 = .ok (.getfield 7, 3) := by decide +kernel
theorem dX4_comes_4 : decode cX4_comes 4 = .ok (.bipush 9, 2) := by decide +kernel
theorem dX4_comes_6 : decode cX4_comes 6 = .ok (.iaload, 1) := by decide +kernel
theorem dX4_comes_7 : decode cX4_comes 7 = .ok (.aload_n 0, 1) := by decide +kernel
theorem dX4_comes_8 : decode cX4_comes 8 = .ok (.getfield 7, 3) := by decide +kernel
theorem dX4_comes_11 : decode cX4_comes 11 = .ok (.iconst 1, 1) := by decide +kernel
theorem dX4_comes_12 : decode cX4_comes 12 = .ok (.iaload, 1) := by decide +kernel
theorem dX4_comes_13 : decode cX4_comes 13 = .ok (.iload_n 2, 1) := by decide +kernel
theorem dX4_comes_14 : decode cX4_comes 14 = .ok (.imul, 1) := by decide +kernel
theorem dX4_comes_15 : decode cX4_comes 15 = .ok (.iadd, 1) := by decide +kernel
theorem dX4_comes_16 : decode cX4_comes 16 = .ok (.aload_n 0, 1) := by decide +kernel
theorem dX4_comes_17 : decode cX4_comes 17 = .ok (.getfield 7, 3) := by decide +kernel
theorem dX4_comes_20 : decode cX4_comes 20 = .ok (.iconst 2, 1) := by decide +kernel
theorem dX4_comes_21 : decode cX4_comes 21 = .ok (.iaload, 1) := by decide +kernel
theorem dX4_comes_22 : decode cX4_comes 22 = .ok (.iload_n 1, 1) := by decide +kernel
theorem dX4_comes_23 : decode cX4_comes 23 = .ok (.imul, 1) := by decide +kernel
theorem dX4_comes_24 : decode cX4_comes 24 = .ok (.iadd, 1) := by decide +kernel
theorem dX4_comes_25 : decode cX4_comes 25 = .ok (.ireturn, 1) := by decide +kernel
set_option maxRecDepth 20000 in
theorem ggX4_refusal_X4_isOut : GoodIn wsX4_refusal wsX4_isOut := goodIn_r _ [4, 5, 6, 3, 7] (by decide +kernel) (by decide +kernel)
set_option maxRecDepth 20000 in
theorem gX4_refusal_X4_isOut : GoodIn wsX4_refusal (va_wsS RX4 95 yX4_isOut wsX4_isOut) := goodIn_app (goodIn_of _ (by decide +kernel)) ggX4_refusal_X4_isOut
set_option maxRecDepth 20000 in
theorem ggX4_refusal_X4_isColour : GoodIn wsX4_refusal wsX4_isColour := goodIn_r _ [10, 5, 6, 3, 7] (by decide +kernel) (by decide +kernel)
set_option maxRecDepth 20000 in
theorem gX4_refusal_X4_isColour : GoodIn wsX4_refusal (va_wsS RX4 99 yX4_isColour wsX4_isColour) := goodIn_app (goodIn_of _ (by decide +kernel)) ggX4_refusal_X4_isColour
set_option maxRecDepth 20000 in
theorem ggX4_refusal_X4_in : GoodIn wsX4_refusal wsX4_in := goodIn_r _ [7] (by decide +kernel) (by decide +kernel)
set_option maxRecDepth 20000 in
theorem gX4_refusal_X4_in : GoodIn wsX4_refusal (va_wsS RX4 24 yX4_in wsX4_in) := goodIn_app (goodIn_of _ (by decide +kernel)) ggX4_refusal_X4_in
theorem dX4_refusal_0 : decode cX4_refusal 0 = .ok (.iload_n 0, 1) := by decide +kernel
theorem dX4_refusal_1 : decode cX4_refusal 1 = .ok (.invokestatic 95, 3) := by decide +kernel
theorem dX4_refusal_4 : decode cX4_refusal 4 = .ok (.ifCond .eq 19, 3) := by decide +kernel
theorem dX4_refusal_7 : decode cX4_refusal 7 = .ok (.iload_n 1, 1) := by decide +kernel
theorem dX4_refusal_8 : decode cX4_refusal 8 = .ok (.invokestatic 99, 3) := by decide +kernel
theorem dX4_refusal_11 : decode cX4_refusal 11 = .ok (.ifCond .eq 12, 3) := by decide +kernel
theorem dX4_refusal_14 : decode cX4_refusal 14 = .ok (.iload_n 2, 1) := by decide +kernel
theorem dX4_refusal_15 : decode cX4_refusal 15 = .ok (.iconst 0, 1) := by decide +kernel
theorem dX4_refusal_16 : decode cX4_refusal 16 = .ok (.iconst 2, 1) := by decide +kernel
theorem dX4_refusal_17 : decode cX4_refusal 17 = .ok (.invokestatic 24, 3) := by decide +kernel
theorem dX4_refusal_20 : decode cX4_refusal 20 = .ok (.ifCond .ne 5, 3) := by decide +kernel
theorem dX4_refusal_23 : decode cX4_refusal 23 = .ok (.iconst (-1), 1) := by decide +kernel
theorem dX4_refusal_24 : decode cX4_refusal 24 = .ok (.ireturn, 1) := by decide +kernel
theorem dX4_refusal_25 : decode cX4_refusal 25 = .ok (.iload_n 3, 1) := by decide +kernel
theorem dX4_refusal_26 : decode cX4_refusal 26 = .ok (.iconst 1, 1) := by decide +kernel
theorem dX4_refusal_27 : decode cX4_refusal 27 = .ok (.iconst 5, 1) := by decide +kernel
theorem dX4_refusal_28 : decode cX4_refusal 28 = .ok (.invokestatic 24, 3) := by decide +kernel
theorem dX4_refusal_31 : decode cX4_refusal 31 = .ok (.ifCond .eq 18, 3) := by decide +kernel
theorem dX4_refusal_34 : decode cX4_refusal 34 = .ok (.iload 4, 2) := by decide +kernel
theorem dX4_refusal_36 : decode cX4_refusal 36 = .ok (.iconst 1, 1) := by decide +kernel
theorem dX4_refusal_37 : decode cX4_refusal 37 = .ok (.bipush 60, 2) := by decide +kernel
theorem dX4_refusal_39 : decode cX4_refusal 39 = .ok (.invokestatic 24, 3) := by decide +kernel
theorem dX4_refusal_42 : decode cX4_refusal 42 = .ok (.ifCond .eq 7, 3) := by decide +kernel
theorem dX4_refusal_45 : decode cX4_refusal 45 = .ok (.iconst 0, 1) := by decide +kernel
theorem dX4_refusal_46 : decode cX4_refusal 46 = .ok (.goto 5, 3) := by decide +kernel
theorem dX4_refusal_49 : decode cX4_refusal 49 = .ok (.bipush (-2), 2) := by decide +kernel
theorem dX4_refusal_51 : decode cX4_refusal 51 = .ok (.ireturn, 1) := by decide +kernel
set_option maxRecDepth 20000 in
theorem ggX4_tell_X4_refusal : GoodIn wsX4_tell wsX4_refusal := goodIn_r _ [10, 11, 12, 9, 13, 14, 15, 16, 17, 18, 19] (by decide +kernel) (by decide +kernel)
set_option maxRecDepth 20000 in
theorem gX4_tell_X4_refusal : GoodIn wsX4_tell (va_wsS RX4 102 yX4_refusal wsX4_refusal) := goodIn_app (goodIn_of _ (by decide +kernel)) ggX4_tell_X4_refusal
set_option maxRecDepth 20000 in
theorem ggX4_tell_X4_comes : GoodIn wsX4_tell wsX4_comes := goodIn_r _ [23, 1, 89, 90, 91, 92, 93, 94, 95, 96] (by decide +kernel) (by decide +kernel)
set_option maxRecDepth 20000 in
theorem gX4_tell_X4_comes : GoodIn wsX4_tell (wsV RX4 106 RX4 yX4_comes wsX4_comes) := goodIn_app (goodIn_of _ (by decide +kernel)) ggX4_tell_X4_comes
set_option maxRecDepth 20000 in
theorem ggX4_tell_X4_place : GoodIn wsX4_tell wsX4_place := goodIn_r _ [27, 1, 28, 29, 30, 9, 31, 32, 33, 34, 35, 36, 37, 38, 39, 40, 41, 42, 43, 44, 45, 46, 47, 48, 49, 50, 51, 52, 53, 54, 55, 56, 57, 58, 59, 60, 61, 62, 63, 64, 65, 66, 67, 68, 2, 3, 4, 5, 6, 69, 70, 71, 72, 73, 74, 75, 76, 77, 78, 79, 80, 81, 82, 83, 84, 85, 86, 87, 88, 89, 90, 91, 92, 93, 94, 95, 96] (by decide +kernel) (by decide +kernel)
set_option maxRecDepth 20000 in
theorem gX4_tell_X4_place : GoodIn wsX4_tell (wsV RX4 109 RX4 yX4_place wsX4_place) := goodIn_app (goodIn_of _ (by decide +kernel)) ggX4_tell_X4_place
set_option maxRecDepth 20000 in
theorem ggX4_tell_X4_at : GoodIn wsX4_tell wsX4_at := goodIn_r _ [53] (by decide +kernel) (by decide +kernel)
set_option maxRecDepth 20000 in
theorem gX4_tell_X4_at : GoodIn wsX4_tell (va_wsS RX4 20 yX4_at wsX4_at) := goodIn_app (goodIn_of _ (by decide +kernel)) ggX4_tell_X4_at
theorem dX4_tell_0 : decode cX4_tell 0 = .ok (.iload_n 1, 1) := by decide +kernel
theorem dX4_tell_1 : decode cX4_tell 1 = .ok (.iload_n 2, 1) := by decide +kernel
theorem dX4_tell_2 : decode cX4_tell 2 = .ok (.iload_n 3, 1) := by decide +kernel
theorem dX4_tell_3 : decode cX4_tell 3 = .ok (.iload 4, 2) := by decide +kernel
theorem dX4_tell_5 : decode cX4_tell 5 = .ok (.iload 5, 2) := by decide +kernel
theorem dX4_tell_7 : decode cX4_tell 7 = .ok (.invokestatic 102, 3) := by decide +kernel
theorem dX4_tell_10 : decode cX4_tell 10 = .ok (.istore 6, 2) := by decide +kernel
theorem dX4_tell_12 : decode cX4_tell 12 = .ok (.iload 6, 2) := by decide +kernel
theorem dX4_tell_14 : decode cX4_tell 14 = .ok (.ifCond .eq 6, 3) := by decide +kernel
theorem dX4_tell_17 : decode cX4_tell 17 = .ok (.iload 6, 2) := by decide +kernel
theorem dX4_tell_19 : decode cX4_tell 19 = .ok (.ireturn, 1) := by decide +kernel
theorem dX4_tell_20 : decode cX4_tell 20 = .ok (.aload_n 0, 1) := by decide +kernel
theorem dX4_tell_21 : decode cX4_tell 21 = .ok (.getfield 7, 3) := by decide +kernel
theorem dX4_tell_24 : decode cX4_tell 24 = .ok (.bipush 10, 2) := by decide +kernel
theorem dX4_tell_26 : decode cX4_tell 26 = .ok (.iaload, 1) := by decide +kernel
theorem dX4_tell_27 : decode cX4_tell 27 = .ok (.bipush 48, 2) := by decide +kernel
theorem dX4_tell_29 : decode cX4_tell 29 = .ok (.if_icmp .ne 6, 3) := by decide +kernel
theorem dX4_tell_32 : decode cX4_tell 32 = .ok (.bipush (-4), 2) := by decide +kernel
theorem dX4_tell_34 : decode cX4_tell 34 = .ok (.ireturn, 1) := by decide +kernel
theorem dX4_tell_35 : decode cX4_tell 35 = .ok (.aload_n 0, 1) := by decide +kernel
theorem dX4_tell_36 : decode cX4_tell 36 = .ok (.iload_n 1, 1) := by decide +kernel
theorem dX4_tell_37 : decode cX4_tell 37 = .ok (.iload_n 2, 1) := by decide +kernel
theorem dX4_tell_38 : decode cX4_tell 38 = .ok (.aload_n 0, 1) := by decide +kernel
theorem dX4_tell_39 : decode cX4_tell 39 = .ok (.iload_n 3, 1) := by decide +kernel
theorem dX4_tell_40 : decode cX4_tell 40 = .ok (.iload 4, 2) := by decide +kernel
theorem dX4_tell_42 : decode cX4_tell 42 = .ok (.invokevirtual 106, 3) := by decide +kernel
theorem dX4_tell_45 : decode cX4_tell 45 = .ok (.iload 5, 2) := by decide +kernel
theorem dX4_tell_47 : decode cX4_tell 47 = .ok (.invokevirtual 109, 3) := by decide +kernel
theorem dX4_tell_50 : decode cX4_tell 50 = .ok (.aload_n 0, 1) := by decide +kernel
theorem dX4_tell_51 : decode cX4_tell 51 = .ok (.getfield 7, 3) := by decide +kernel
theorem dX4_tell_54 : decode cX4_tell 54 = .ok (.bipush 10, 2) := by decide +kernel
theorem dX4_tell_56 : decode cX4_tell 56 = .ok (.iaload, 1) := by decide +kernel
theorem dX4_tell_57 : decode cX4_tell 57 = .ok (.istore 7, 2) := by decide +kernel
theorem dX4_tell_59 : decode cX4_tell 59 = .ok (.aload_n 0, 1) := by decide +kernel
theorem dX4_tell_60 : decode cX4_tell 60 = .ok (.getfield 7, 3) := by decide +kernel
theorem dX4_tell_63 : decode cX4_tell 63 = .ok (.iload 7, 2) := by decide +kernel
theorem dX4_tell_65 : decode cX4_tell 65 = .ok (.iconst 0, 1) := by decide +kernel
theorem dX4_tell_66 : decode cX4_tell 66 = .ok (.invokestatic 20, 3) := by decide +kernel
theorem dX4_tell_69 : decode cX4_tell 69 = .ok (.iload_n 1, 1) := by decide +kernel
theorem dX4_tell_70 : decode cX4_tell 70 = .ok (.iastore, 1) := by decide +kernel
theorem dX4_tell_71 : decode cX4_tell 71 = .ok (.aload_n 0, 1) := by decide +kernel
theorem dX4_tell_72 : decode cX4_tell 72 = .ok (.getfield 7, 3) := by decide +kernel
theorem dX4_tell_75 : decode cX4_tell 75 = .ok (.iload 7, 2) := by decide +kernel
theorem dX4_tell_77 : decode cX4_tell 77 = .ok (.iconst 1, 1) := by decide +kernel
theorem dX4_tell_78 : decode cX4_tell 78 = .ok (.invokestatic 20, 3) := by decide +kernel
theorem dX4_tell_81 : decode cX4_tell 81 = .ok (.iload_n 2, 1) := by decide +kernel
theorem dX4_tell_82 : decode cX4_tell 82 = .ok (.iastore, 1) := by decide +kernel
theorem dX4_tell_83 : decode cX4_tell 83 = .ok (.aload_n 0, 1) := by decide +kernel
theorem dX4_tell_84 : decode cX4_tell 84 = .ok (.getfield 7, 3) := by decide +kernel
theorem dX4_tell_87 : decode cX4_tell 87 = .ok (.iload 7, 2) := by decide +kernel
theorem dX4_tell_89 : decode cX4_tell 89 = .ok (.iconst 2, 1) := by decide +kernel
theorem dX4_tell_90 : decode cX4_tell 90 = .ok (.invokestatic 20, 3) := by decide +kernel
theorem dX4_tell_93 : decode cX4_tell 93 = .ok (.iload_n 3, 1) := by decide +kernel
theorem dX4_tell_94 : decode cX4_tell 94 = .ok (.iastore, 1) := by decide +kernel
theorem dX4_tell_95 : decode cX4_tell 95 = .ok (.aload_n 0, 1) := by decide +kernel
theorem dX4_tell_96 : decode cX4_tell 96 = .ok (.getfield 7, 3) := by decide +kernel
theorem dX4_tell_99 : decode cX4_tell 99 = .ok (.iload 7, 2) := by decide +kernel
theorem dX4_tell_101 : decode cX4_tell 101 = .ok (.iconst 3, 1) := by decide +kernel
theorem dX4_tell_102 : decode cX4_tell 102 = .ok (.invokestatic 20, 3) := by decide +kernel
theorem dX4_tell_105 : decode cX4_tell 105 = .ok (.iload 4, 2) := by decide +kernel
theorem dX4_tell_107 : decode cX4_tell 107 = .ok (.iastore, 1) := by decide +kernel
theorem dX4_tell_108 : decode cX4_tell 108 = .ok (.aload_n 0, 1) := by decide +kernel
theorem dX4_tell_109 : decode cX4_tell 109 = .ok (.getfield 7, 3) := by decide +kernel
theorem dX4_tell_112 : decode cX4_tell 112 = .ok (.iload 7, 2) := by decide +kernel
theorem dX4_tell_114 : decode cX4_tell 114 = .ok (.iconst 4, 1) := by decide +kernel
theorem dX4_tell_115 : decode cX4_tell 115 = .ok (.invokestatic 20, 3) := by decide +kernel
theorem dX4_tell_118 : decode cX4_tell 118 = .ok (.iload 5, 2) := by decide +kernel
theorem dX4_tell_120 : decode cX4_tell 120 = .ok (.iastore, 1) := by decide +kernel
theorem dX4_tell_121 : decode cX4_tell 121 = .ok (.aload_n 0, 1) := by decide +kernel
theorem dX4_tell_122 : decode cX4_tell 122 = .ok (.getfield 7, 3) := by decide +kernel
theorem dX4_tell_125 : decode cX4_tell 125 = .ok (.iload 7, 2) := by decide +kernel
theorem dX4_tell_127 : decode cX4_tell 127 = .ok (.iconst 5, 1) := by decide +kernel
theorem dX4_tell_128 : decode cX4_tell 128 = .ok (.invokestatic 20, 3) := by decide +kernel
theorem dX4_tell_131 : decode cX4_tell 131 = .ok (.aload_n 0, 1) := by decide +kernel
theorem dX4_tell_132 : decode cX4_tell 132 = .ok (.iload_n 3, 1) := by decide +kernel
theorem dX4_tell_133 : decode cX4_tell 133 = .ok (.iload 4, 2) := by decide +kernel
theorem dX4_tell_135 : decode cX4_tell 135 = .ok (.invokevirtual 106, 3) := by decide +kernel
theorem dX4_tell_138 : decode cX4_tell 138 = .ok (.iastore, 1) := by decide +kernel
theorem dX4_tell_139 : decode cX4_tell 139 = .ok (.aload_n 0, 1) := by decide +kernel
theorem dX4_tell_140 : decode cX4_tell 140 = .ok (.getfield 7, 3) := by decide +kernel
theorem dX4_tell_143 : decode cX4_tell 143 = .ok (.iload 7, 2) := by decide +kernel
theorem dX4_tell_145 : decode cX4_tell 145 = .ok (.bipush 6, 2) := by decide +kernel
theorem dX4_tell_147 : decode cX4_tell 147 = .ok (.invokestatic 20, 3) := by decide +kernel
theorem dX4_tell_150 : decode cX4_tell 150 = .ok (.aload_n 0, 1) := by decide +kernel
theorem dX4_tell_151 : decode cX4_tell 151 = .ok (.getfield 58, 3) := by decide +kernel
theorem dX4_tell_154 : decode cX4_tell 154 = .ok (.iastore, 1) := by decide +kernel
theorem dX4_tell_155 : decode cX4_tell 155 = .ok (.aload_n 0, 1) := by decide +kernel
theorem dX4_tell_156 : decode cX4_tell 156 = .ok (.getfield 7, 3) := by decide +kernel
theorem dX4_tell_159 : decode cX4_tell 159 = .ok (.iload 7, 2) := by decide +kernel
theorem dX4_tell_161 : decode cX4_tell 161 = .ok (.bipush 7, 2) := by decide +kernel
theorem dX4_tell_163 : decode cX4_tell 163 = .ok (.invokestatic 20, 3) := by decide +kernel
theorem dX4_tell_166 : decode cX4_tell 166 = .ok (.aload_n 0, 1) := by decide +kernel
theorem dX4_tell_167 : decode cX4_tell 167 = .ok (.getfield 62, 3) := by decide +kernel
theorem dX4_tell_170 : decode cX4_tell 170 = .ok (.iastore, 1) := by decide +kernel
theorem dX4_tell_171 : decode cX4_tell 171 = .ok (.aload_n 0, 1) := by decide +kernel
theorem dX4_tell_172 : decode cX4_tell 172 = .ok (.getfield 7, 3) := by decide +kernel
theorem dX4_tell_175 : decode cX4_tell 175 = .ok (.iload 7, 2) := by decide +kernel
theorem dX4_tell_177 : decode cX4_tell 177 = .ok (.bipush 8, 2) := by decide +kernel
