set_option maxRecDepth 20000 in
theorem ggX3_init_X1_init : GoodIn wsX3_init wsX1_init := goodIn_r _ [17, 18, 2, 3, 19, 11, 12, 20, 21, 22, 23, 24, 25, 26, 27, 28, 29, 30, 31, 32, 33, 34, 35, 36, 37, 38, 39, 40, 41, 42, 43, 44, 45, 46, 47, 48, 49, 50, 51, 52, 53, 54, 55, 73, 74, 75, 76, 77, 56, 57, 58, 59, 60, 61, 62, 63, 64, 65, 66, 78, 79, 80, 81] (by decide +kernel) (by decide +kernel)
set_option maxRecDepth 20000 in
theorem gX3_init_X1_init_n9 : GoodIn wsX3_init (wsX1_init) := ggX3_init_X1_init
set_option maxRecDepth 20000 in
theorem ggX3_init_X0_init : GoodIn wsX3_init wsX0_init := goodIn_r _ [35, 36, 2, 3, 37, 38, 39, 40, 41, 42, 43, 44, 45, 46, 47, 48, 73, 74, 75, 76, 77] (by decide +kernel) (by decide +kernel)
set_option maxRecDepth 20000 in
theorem gX3_init_X0_init_n28 : GoodIn wsX3_init (wsX0_init) := ggX3_init_X0_init
theorem dX3_init_0 : decode cX3_init 0 = .ok (.aload_n 0, 1) := by decide +kernel
theorem dX3_init_1 : decode cX3_init 1 = .ok (.invokespecial 1, 3) := by decide +kernel
theorem dX3_init_4 : decode cX3_init 4 = .ok (.aload_n 0, 1) := by decide +kernel
theorem dX3_init_5 : decode cX3_init 5 = .ok (.new 7, 3) := by decide +kernel
theorem dX3_init_8 : decode cX3_init 8 = .ok (.dup, 1) := by decide +kernel
theorem dX3_init_9 : decode cX3_init 9 = .ok (.invokespecial 9, 3) := by decide +kernel
theorem dX3_init_12 : decode cX3_init 12 = .ok (.putfield 10, 3) := by decide +kernel
theorem dX3_init_15 : decode cX3_init 15 = .ok (.aload_n 0, 1) := by decide +kernel
theorem dX3_init_16 : decode cX3_init 16 = .ok (.aload_n 0, 1) := by decide +kernel
theorem dX3_init_17 : decode cX3_init 17 = .ok (.getfield 10, 3) := by decide +kernel
theorem dX3_init_20 : decode cX3_init 20 = .ok (.getfield 16, 3) := by decide +kernel
theorem dX3_init_23 : decode cX3_init 23 = .ok (.putfield 20, 3) := by decide +kernel
theorem dX3_init_26 : decode cX3_init 26 = .ok (.aload_n 0, 1) := by decide +kernel
theorem dX3_init_27 : decode cX3_init 27 = .ok (.aload_n 0, 1) := by decide +kernel
theorem dX3_init_28 : decode cX3_init 28 = .ok (.getfield 10, 3) := by decide +kernel
theorem dX3_init_31 : decode cX3_init 31 = .ok (.getfield 21, 3) := by decide +kernel
theorem dX3_init_34 : decode cX3_init 34 = .ok (.putfield 25, 3) := by decide +kernel
theorem dX3_init_37 : decode cX3_init 37 = .ok (.aload_n 0, 1) := by decide +kernel
theorem dX3_init_38 : decode cX3_init 38 = .ok (.new 26, 3) := by decide +kernel
theorem dX3_init_41 : decode cX3_init 41 = .ok (.dup, 1) := by decide +kernel
theorem dX3_init_42 : decode cX3_init 42 = .ok (.invokespecial 28, 3) := by decide +kernel
theorem dX3_init_45 : decode cX3_init 45 = .ok (.putfield 29, 3) := by decide +kernel
theorem dX3_init_48 : decode cX3_init 48 = .ok (.aload_n 0, 1) := by decide +kernel
theorem dX3_init_49 : decode cX3_init 49 = .ok (.new 26, 3) := by decide +kernel
theorem dX3_init_52 : decode cX3_init 52 = .ok (.dup, 1) := by decide +kernel
theorem dX3_init_53 : decode cX3_init 53 = .ok (.invokespecial 28, 3) := by decide +kernel
theorem dX3_init_56 : decode cX3_init 56 = .ok (.putfield 32, 3) := by decide +kernel
theorem dX3_init_59 : decode cX3_init 59 = .ok (.aload_n 0, 1) := by decide +kernel
theorem dX3_init_60 : decode cX3_init 60 = .ok (.iconst 0, 1) := by decide +kernel
theorem dX3_init_61 : decode cX3_init 61 = .ok (.putfield 35, 3) := by decide +kernel
theorem dX3_init_64 : decode cX3_init 64 = .ok (.return_, 1) := by decide +kernel
set_option maxRecDepth 20000 in
theorem ggX3_rule_X3_isBelow : GoodIn wsX3_rule wsX3_isBelow := goodIn_r _ [7] (by decide +kernel) (by decide +kernel)
set_option maxRecDepth 20000 in
theorem gX3_rule_X3_isBelow : GoodIn wsX3_rule (va_wsS RX3 39 yX3_isBelow wsX3_isBelow) := goodIn_app (goodIn_of _ (by decide +kernel)) ggX3_rule_X3_isBelow
theorem dX3_rule_0 : decode cX3_rule 0 = .ok (.iload_n 1, 1) := by decide +kernel
theorem dX3_rule_1 : decode cX3_rule 1 = .ok (.bipush 6, 2) := by decide +kernel
theorem dX3_rule_3 : decode cX3_rule 3 = .ok (.invokestatic 39, 3) := by decide +kernel
theorem dX3_rule_6 : decode cX3_rule 6 = .ok (.ifCond .eq 21, 3) := by decide +kernel
theorem dX3_rule_9 : decode cX3_rule 9 = .ok (.iload_n 2, 1) := by decide +kernel
theorem dX3_rule_10 : decode cX3_rule 10 = .ok (.getstatic 43, 3) := by decide +kernel
theorem dX3_rule_13 : decode cX3_rule 13 = .ok (.iload_n 1, 1) := by decide +kernel
theorem dX3_rule_14 : decode cX3_rule 14 = .ok (.iaload, 1) := by decide +kernel
theorem dX3_rule_15 : decode cX3_rule 15 = .ok (.if_icmp .lt 12, 3) := by decide +kernel
theorem dX3_rule_18 : decode cX3_rule 18 = .ok (.iload_n 2, 1) := by decide +kernel
theorem dX3_rule_19 : decode cX3_rule 19 = .ok (.getstatic 47, 3) := by decide +kernel
theorem dX3_rule_22 : decode cX3_rule 22 = .ok (.iload_n 1, 1) := by decide +kernel
theorem dX3_rule_23 : decode cX3_rule 23 = .ok (.iaload, 1) := by decide +kernel
theorem dX3_rule_24 : decode cX3_rule 24 = .ok (.if_icmp .le 6, 3) := by decide +kernel
theorem dX3_rule_27 : decode cX3_rule 27 = .ok (.bipush (-2), 2) := by decide +kernel
theorem dX3_rule_29 : decode cX3_rule 29 = .ok (.ireturn, 1) := by decide +kernel
theorem dX3_rule_30 : decode cX3_rule 30 = .ok (.aload_n 0, 1) := by decide +kernel
theorem dX3_rule_31 : decode cX3_rule 31 = .ok (.getfield 20, 3) := by decide +kernel
theorem dX3_rule_34 : decode cX3_rule 34 = .ok (.getfield 50, 3) := by decide +kernel
theorem dX3_rule_37 : decode cX3_rule 37 = .ok (.iload_n 1, 1) := by decide +kernel
theorem dX3_rule_38 : decode cX3_rule 38 = .ok (.iaload, 1) := by decide +kernel
theorem dX3_rule_39 : decode cX3_rule 39 = .ok (.istore_n 3, 1) := by decide +kernel
theorem dX3_rule_40 : decode cX3_rule 40 = .ok (.aload_n 0, 1) := by decide +kernel
theorem dX3_rule_41 : decode cX3_rule 41 = .ok (.getfield 20, 3) := by decide +kernel
theorem dX3_rule_44 : decode cX3_rule 44 = .ok (.getfield 50, 3) := by decide +kernel
theorem dX3_rule_47 : decode cX3_rule 47 = .ok (.iload_n 1, 1) := by decide +kernel
theorem dX3_rule_48 : decode cX3_rule 48 = .ok (.iload_n 2, 1) := by decide +kernel
theorem dX3_rule_49 : decode cX3_rule 49 = .ok (.iastore, 1) := by decide +kernel
theorem dX3_rule_50 : decode cX3_rule 50 = .ok (.iload_n 3, 1) := by decide +kernel
theorem dX3_rule_51 : decode cX3_rule 51 = .ok (.ireturn, 1) := by decide +kernel
set_option maxRecDepth 20000 in
theorem ggX3_line_X3_isBelow : GoodIn wsX3_line wsX3_isBelow := goodIn_r _ [6] (by decide +kernel) (by decide +kernel)
set_option maxRecDepth 20000 in
theorem gX3_line_X3_isBelow : GoodIn wsX3_line (va_wsS RX3 39 yX3_isBelow wsX3_isBelow) := goodIn_app (goodIn_of _ (by decide +kernel)) ggX3_line_X3_isBelow
set_option maxRecDepth 20000 in
theorem ggX3_line_X3_isWithin : GoodIn wsX3_line wsX3_isWithin := goodIn_r _ [9] (by decide +kernel) (by decide +kernel)
set_option maxRecDepth 20000 in
theorem gX3_line_X3_isWithin : GoodIn wsX3_line (va_wsS RX3 53 yX3_isWithin wsX3_isWithin) := goodIn_app (goodIn_of _ (by decide +kernel)) ggX3_line_X3_isWithin
set_option maxRecDepth 20000 in
theorem ggX3_line_X0_showLine : GoodIn wsX3_line wsX0_showLine := goodIn_r _ [13, 14, 15, 16, 17, 18, 19, 20, 21, 22, 11, 23, 24, 4, 5, 6, 25, 26, 27, 28, 29, 30, 44, 45, 46, 47, 48, 49, 50, 51, 52] (by decide +kernel) (by decide +kernel)
set_option maxRecDepth 20000 in
theorem gX3_line_X0_showLine_n57 : GoodIn wsX3_line (wsX0_showLine) := ggX3_line_X0_showLine
set_option maxRecDepth 20000 in
theorem ggX3_line_X2_lastEnd : GoodIn wsX3_line wsX2_lastEnd := goodIn_r _ [33, 19, 30, 34, 35, 36, 16, 37, 4, 5, 6, 49, 50, 51, 52] (by decide +kernel) (by decide +kernel)
set_option maxRecDepth 20000 in
theorem gX3_line_X2_lastEnd_n61 : GoodIn wsX3_line (wsX2_lastEnd) := ggX3_line_X2_lastEnd
theorem dX3_line_0 : decode cX3_line 0 = .ok (.iload_n 1, 1) := by decide +kernel
theorem dX3_line_1 : decode cX3_line 1 = .ok (.iconst 3, 1) := by decide +kernel
theorem dX3_line_2 : decode cX3_line 2 = .ok (.invokestatic 39, 3) := by decide +kernel
theorem dX3_line_5 : decode cX3_line 5 = .ok (.ifCond .ne 5, 3) := by decide +kernel
theorem dX3_line_8 : decode cX3_line 8 = .ok (.iconst (-1), 1) := by decide +kernel
theorem dX3_line_9 : decode cX3_line 9 = .ok (.ireturn, 1) := by decide +kernel
theorem dX3_line_10 : decode cX3_line 10 = .ok (.iload_n 2, 1) := by decide +kernel
theorem dX3_line_11 : decode cX3_line 11 = .ok (.iconst 0, 1) := by decide +kernel
theorem dX3_line_12 : decode cX3_line 12 = .ok (.bipush 60, 2) := by decide +kernel
theorem dX3_line_14 : decode cX3_line 14 = .ok (.invokestatic 53, 3) := by decide +kernel
theorem dX3_line_17 : decode cX3_line 17 = .ok (.ifCond .ne 6, 3) := by decide +kernel
theorem dX3_line_20 : decode cX3_line 20 = .ok (.bipush (-2), 2) := by decide +kernel
theorem dX3_line_22 : decode cX3_line 22 = .ok (.ireturn, 1) := by decide +kernel
theorem dX3_line_23 : decode cX3_line 23 = .ok (.aload_n 0, 1) := by decide +kernel
theorem dX3_line_24 : decode cX3_line 24 = .ok (.getfield 20, 3) := by decide +kernel
theorem dX3_line_27 : decode cX3_line 27 = .ok (.iload_n 1, 1) := by decide +kernel
theorem dX3_line_28 : decode cX3_line 28 = .ok (.aload_n 0, 1) := by decide +kernel
theorem dX3_line_29 : decode cX3_line 29 = .ok (.getfield 25, 3) := by decide +kernel
theorem dX3_line_32 : decode cX3_line 32 = .ok (.invokevirtual 57, 3) := by decide +kernel
theorem dX3_line_35 : decode cX3_line 35 = .ok (.aload_n 0, 1) := by decide +kernel
theorem dX3_line_36 : decode cX3_line 36 = .ok (.getfield 25, 3) := by decide +kernel
theorem dX3_line_39 : decode cX3_line 39 = .ok (.invokevirtual 61, 3) := by decide +kernel
theorem dX3_line_42 : decode cX3_line 42 = .ok (.aload_n 0, 1) := by decide +kernel
theorem dX3_line_43 : decode cX3_line 43 = .ok (.getfield 20, 3) := by decide +kernel
theorem dX3_line_46 : decode cX3_line 46 = .ok (.getfield 67, 3) := by decide +kernel
theorem dX3_line_49 : decode cX3_line 49 = .ok (.if_icmp .le 6, 3) := by decide +kernel
theorem dX3_line_52 : decode cX3_line 52 = .ok (.bipush (-5), 2) := by decide +kernel
theorem dX3_line_54 : decode cX3_line 54 = .ok (.ireturn, 1) := by decide +kernel
theorem dX3_line_55 : decode cX3_line 55 = .ok (.aload_n 0, 1) := by decide +kernel
theorem dX3_line_56 : decode cX3_line 56 = .ok (.getfield 20, 3) := by decide +kernel
theorem dX3_line_59 : decode cX3_line 59 = .ok (.getfield 70, 3) := by decide +kernel
theorem dX3_line_62 : decode cX3_line 62 = .ok (.iload_n 1, 1) := by decide +kernel
theorem dX3_line_63 : decode cX3_line 63 = .ok (.iaload, 1) := by decide +kernel
theorem dX3_line_64 : decode cX3_line 64 = .ok (.istore_n 3, 1) := by decide +kernel
theorem dX3_line_65 : decode cX3_line 65 = .ok (.aload_n 0, 1) := by decide +kernel
theorem dX3_line_66 : decode cX3_line 66 = .ok (.getfield 20, 3) := by decide +kernel
theorem dX3_line_69 : decode cX3_line 69 = .ok (.getfield 70, 3) := by decide +kernel
theorem dX3_line_72 : decode cX3_line 72 = .ok (.iload_n 1, 1) := by decide +kernel
theorem dX3_line_73 : decode cX3_line 73 = .ok (.iload_n 2, 1) := by decide +kernel
theorem dX3_line_74 : decode cX3_line 74 = .ok (.iastore, 1) := by decide +kernel
theorem dX3_line_75 : decode cX3_line 75 = .ok (.iload_n 3, 1) := by decide +kernel
theorem dX3_line_76 : decode cX3_line 76 = .ok (.ireturn, 1) := by decide +kernel
set_option maxRecDepth 20000 in
theorem ggX3_pass_X3_isWithin : GoodIn wsX3_pass wsX3_isWithin := goodIn_r _ [5] (by decide +kernel) (by decide +kernel)
set_option maxRecDepth 20000 in
theorem gX3_pass_X3_isWithin : GoodIn wsX3_pass (va_wsS RX3 53 yX3_isWithin wsX3_isWithin) := goodIn_app (goodIn_of _ (by decide +kernel)) ggX3_pass_X3_isWithin
theorem dX3_pass_0 : decode cX3_pass 0 = .ok (.iload_n 1, 1) := by decide +kernel
theorem dX3_pass_1 : decode cX3_pass 1 = .ok (.iconst 1, 1) := by decide +kernel
theorem dX3_pass_2 : decode cX3_pass 2 = .ok (.sipush 200, 3) := by decide +kernel
theorem dX3_pass_5 : decode cX3_pass 5 = .ok (.invokestatic 53, 3) := by decide +kernel
theorem dX3_pass_8 : decode cX3_pass 8 = .ok (.ifCond .ne 6, 3) := by decide +kernel
theorem dX3_pass_11 : decode cX3_pass 11 = .ok (.bipush (-2), 2) := by decide +kernel
theorem dX3_pass_13 : decode cX3_pass 13 = .ok (.ireturn, 1) := by decide +kernel
theorem dX3_pass_14 : decode cX3_pass 14 = .ok (.aload_n 0, 1) := by decide +kernel
theorem dX3_pass_15 : decode cX3_pass 15 = .ok (.getfield 20, 3) := by decide +kernel
theorem dX3_pass_18 : decode cX3_pass 18 = .ok (.dup, 1) := by decide +kernel
theorem dX3_pass_19 : decode cX3_pass 19 = .ok (.getfield 67, 3) := by decide +kernel
theorem dX3_pass_22 : decode cX3_pass 22 = .ok (.iload_n 1, 1) := by decide +kernel
theorem dX3_pass_23 : decode cX3_pass 23 = .ok (.iadd, 1) := by decide +kernel
theorem dX3_pass_24 : decode cX3_pass 24 = .ok (.putfield 67, 3) := by decide +kernel
theorem dX3_pass_27 : decode cX3_pass 27 = .ok (.aload_n 0, 1) := by decide +kernel
theorem dX3_pass_28 : decode cX3_pass 28 = .ok (.getfield 20, 3) := by decide +kernel
theorem dX3_pass_31 : decode cX3_pass 31 = .ok (.getfield 67, 3) := by decide +kernel
theorem dX3_pass_34 : decode cX3_pass 34 = .ok (.ireturn, 1) := by decide +kernel
set_option maxRecDepth 20000 in
theorem ggX3_tell_X3_refusalOfBurst : GoodIn wsX3_tell wsX3_refusalOfBurst := goodIn_r _ [6, 7, 8, 5, 9, 10, 11, 12, 13, 14, 15] (by decide +kernel) (by decide +kernel)
set_option maxRecDepth 20000 in
theorem gX3_tell_X3_refusalOfBurst : GoodIn wsX3_tell (va_wsS RX3 73 yX3_refusalOfBurst wsX3_refusalOfBurst) := goodIn_app (goodIn_of _ (by decide +kernel)) ggX3_tell_X3_refusalOfBurst
set_option maxRecDepth 20000 in
theorem ggX3_tell_X0_comingTick : GoodIn wsX3_tell wsX0_comingTick := goodIn_r _ [19, 20, 21, 22, 23, 17, 24, 25, 11, 5, 12, 139, 140, 141, 142, 143] (by decide +kernel) (by decide +kernel)
set_option maxRecDepth 20000 in
theorem gX3_tell_X0_comingTick_n80 : GoodIn wsX3_tell (wsX0_comingTick) := ggX3_tell_X0_comingTick
set_option maxRecDepth 20000 in
theorem ggX3_tell_X1_place : GoodIn wsX3_tell wsX1_place := goodIn_r _ [29, 30, 31, 32, 33, 34, 35, 36, 37, 38, 27, 39, 40, 41, 42, 43, 44, 45, 46, 47, 48, 49, 50, 51, 52, 53, 54, 55, 56, 57, 58, 59, 60, 22, 17, 23, 24, 25, 11, 5, 12, 61, 62, 63, 64, 65, 66, 67, 68, 69, 70, 71, 72, 73, 74, 75, 76, 77, 78, 79, 80, 81, 82, 83, 84, 85, 86, 87, 88, 89, 90, 91, 92, 93, 94, 95, 96, 97, 98, 99, 100, 101, 102, 103, 104, 105, 106, 107, 108, 109, 110, 111, 112, 113, 114, 115, 116, 117, 118, 119, 120, 121, 122, 123, 124, 125, 126, 144, 145, 146, 147, 148, 149, 150, 151, 152, 153, 154, 139, 140, 141, 142, 143, 155, 156, 157, 158] (by decide +kernel) (by decide +kernel)
set_option maxRecDepth 20000 in
theorem gX3_tell_X1_place_n84 : GoodIn wsX3_tell (wsX1_place) := ggX3_tell_X1_place
set_option maxRecDepth 20000 in
theorem ggX3_tell_X0_setFact : GoodIn wsX3_tell wsX0_setFact := goodIn_r _ [129, 74, 11, 5, 12, 139, 140, 141, 142, 143] (by decide +kernel) (by decide +kernel)
set_option maxRecDepth 20000 in
theorem gX3_tell_X0_setFact_n88 : GoodIn wsX3_tell (wsX0_setFact) := ggX3_tell_X0_setFact
set_option maxRecDepth 20000 in
theorem ggX3_tell_X1_writeTo : GoodIn wsX3_tell wsX1_writeTo := goodIn_r _ [132, 35, 30, 31, 32, 33, 34, 40, 41, 42, 43, 127, 17, 128, 129, 74, 11, 5, 12, 144, 145, 146, 147, 148, 149, 150, 151, 152, 153, 154, 139, 140, 141, 142, 143] (by decide +kernel) (by decide +kernel)
set_option maxRecDepth 20000 in
theorem gX3_tell_X1_writeTo_n92 : GoodIn wsX3_tell (wsX1_writeTo) := ggX3_tell_X1_writeTo
theorem dX3_tell_0 : decode cX3_tell 0 = .ok (.iload_n 1, 1) := by decide +kernel
theorem dX3_tell_1 : decode cX3_tell 1 = .ok (.iload_n 2, 1) := by decide +kernel
theorem dX3_tell_2 : decode cX3_tell 2 = .ok (.iload_n 3, 1) := by decide +kernel
theorem dX3_tell_3 : decode cX3_tell 3 = .ok (.iload 4, 2) := by decide +kernel
theorem dX3_tell_5 : decode cX3_tell 5 = .ok (.iload 5, 2) := by decide +kernel
theorem dX3_tell_7 : decode cX3_tell 7 = .ok (.invokestatic 73, 3) := by decide +kernel
theorem dX3_tell_10 : decode cX3_tell 10 = .ok (.istore 6, 2) := by decide +kernel
theorem dX3_tell_12 : decode cX3_tell 12 = .ok (.iload 6, 2) := by decide +kernel
theorem dX3_tell_14 : decode cX3_tell 14 = .ok (.ifCond .eq 6, 3) := by decide +kernel
theorem dX3_tell_17 : decode cX3_tell 17 = .ok (.iload 6, 2) := by decide +kernel
theorem dX3_tell_19 : decode cX3_tell 19 = .ok (.ireturn, 1) := by decide +kernel
theorem dX3_tell_20 : decode cX3_tell 20 = .ok (.aload_n 0, 1) := by decide +kernel
theorem dX3_tell_21 : decode cX3_tell 21 = .ok (.getfield 20, 3) := by decide +kernel
theorem dX3_tell_24 : decode cX3_tell 24 = .ok (.getfield 77, 3) := by decide +kernel
theorem dX3_tell_27 : decode cX3_tell 27 = .ok (.istore 7, 2) := by decide +kernel
theorem dX3_tell_29 : decode cX3_tell 29 = .ok (.iload 7, 2) := by decide +kernel
theorem dX3_tell_31 : decode cX3_tell 31 = .ok (.bipush 48, 2) := by decide +kernel
theorem dX3_tell_33 : decode cX3_tell 33 = .ok (.if_icmp .lt 6, 3) := by decide +kernel
theorem dX3_tell_36 : decode cX3_tell 36 = .ok (.bipush (-4), 2) := by decide +kernel
theorem dX3_tell_38 : decode cX3_tell 38 = .ok (.ireturn, 1) := by decide +kernel
theorem dX3_tell_39 : decode cX3_tell 39 = .ok (.aload_n 0, 1) := by decide +kernel
theorem dX3_tell_40 : decode cX3_tell 40 = .ok (.getfield 10, 3) := by decide +kernel
theorem dX3_tell_43 : decode cX3_tell 43 = .ok (.iload_n 1, 1) := by decide +kernel
theorem dX3_tell_44 : decode cX3_tell 44 = .ok (.iload_n 2, 1) := by decide +kernel
theorem dX3_tell_45 : decode cX3_tell 45 = .ok (.aload_n 0, 1) := by decide +kernel
theorem dX3_tell_46 : decode cX3_tell 46 = .ok (.getfield 20, 3) := by decide +kernel
theorem dX3_tell_49 : decode cX3_tell 49 = .ok (.iload_n 3, 1) := by decide +kernel
theorem dX3_tell_50 : decode cX3_tell 50 = .ok (.iload 4, 2) := by decide +kernel
theorem dX3_tell_52 : decode cX3_tell 52 = .ok (.invokevirtual 80, 3) := by decide +kernel
theorem dX3_tell_55 : decode cX3_tell 55 = .ok (.iload 5, 2) := by decide +kernel
theorem dX3_tell_57 : decode cX3_tell 57 = .ok (.invokevirtual 84, 3) := by decide +kernel
theorem dX3_tell_60 : decode cX3_tell 60 = .ok (.aload_n 0, 1) := by decide +kernel
theorem dX3_tell_61 : decode cX3_tell 61 = .ok (.getfield 20, 3) := by decide +kernel
theorem dX3_tell_64 : decode cX3_tell 64 = .ok (.iload 7, 2) := by decide +kernel
theorem dX3_tell_66 : decode cX3_tell 66 = .ok (.iconst 1, 1) := by decide +kernel
theorem dX3_tell_67 : decode cX3_tell 67 = .ok (.iadd, 1) := by decide +kernel
theorem dX3_tell_68 : decode cX3_tell 68 = .ok (.putfield 77, 3) := by decide +kernel
theorem dX3_tell_71 : decode cX3_tell 71 = .ok (.aload_n 0, 1) := by decide +kernel
theorem dX3_tell_72 : decode cX3_tell 72 = .ok (.getfield 20, 3) := by decide +kernel
theorem dX3_tell_75 : decode cX3_tell 75 = .ok (.iload 7, 2) := by decide +kernel
theorem dX3_tell_77 : decode cX3_tell 77 = .ok (.iconst 2, 1) := by decide +kernel
theorem dX3_tell_78 : decode cX3_tell 78 = .ok (.iload_n 3, 1) := by decide +kernel
theorem dX3_tell_79 : decode cX3_tell 79 = .ok (.invokevirtual 88, 3) := by decide +kernel
theorem dX3_tell_82 : decode cX3_tell 82 = .ok (.aload_n 0, 1) := by decide +kernel
theorem dX3_tell_83 : decode cX3_tell 83 = .ok (.getfield 20, 3) := by decide +kernel
theorem dX3_tell_86 : decode cX3_tell 86 = .ok (.iload 7, 2) := by decide +kernel
theorem dX3_tell_88 : decode cX3_tell 88 = .ok (.iconst 3, 1) := by decide +kernel
theorem dX3_tell_89 : decode cX3_tell 89 = .ok (.iload 4, 2) := by decide +kernel
theorem dX3_tell_91 : decode cX3_tell 91 = .ok (.invokevirtual 88, 3) := by decide +kernel
theorem dX3_tell_94 : decode cX3_tell 94 = .ok (.aload_n 0, 1) := by decide +kernel
theorem dX3_tell_95 : decode cX3_tell 95 = .ok (.getfield 10, 3) := by decide +kernel
theorem dX3_tell_98 : decode cX3_tell 98 = .ok (.iload 7, 2) := by decide +kernel
theorem dX3_tell_100 : decode cX3_tell 100 = .ok (.invokevirtual 92, 3) := by decide +kernel
theorem dX3_tell_103 : decode cX3_tell 103 = .ok (.iload 7, 2) := by decide +kernel
theorem dX3_tell_105 : decode cX3_tell 105 = .ok (.ireturn, 1) := by decide +kernel
set_option maxRecDepth 20000 in
theorem ggX3_would_X3_refusalOfBurst : GoodIn wsX3_would wsX3_refusalOfBurst := goodIn_r _ [6, 7, 8, 5, 9, 10, 11, 12, 13, 14, 15] (by decide +kernel) (by decide +kernel)
set_option maxRecDepth 20000 in
theorem gX3_would_X3_refusalOfBurst : GoodIn wsX3_would (va_wsS RX3 73 yX3_refusalOfBurst wsX3_refusalOfBurst) := goodIn_app (goodIn_of _ (by decide +kernel)) ggX3_would_X3_refusalOfBurst
set_option maxRecDepth 20000 in
theorem ggX3_would_X0_comingTick : GoodIn wsX3_would wsX0_comingTick := goodIn_r _ [19, 20, 21, 22, 23, 17, 24, 25, 11, 5, 12, 144, 145, 146, 147, 148] (by decide +kernel) (by decide +kernel)
set_option maxRecDepth 20000 in
theorem gX3_would_X0_comingTick_n80 : GoodIn wsX3_would (wsX0_comingTick) := ggX3_would_X0_comingTick
set_option maxRecDepth 20000 in
theorem ggX3_would_X1_place : GoodIn wsX3_would wsX1_place := goodIn_r _ [29, 30, 31, 32, 33, 34, 35, 36, 37, 38, 27, 39, 40, 41, 42, 43, 44, 45, 46, 47, 48, 49, 50, 51, 52, 53, 54, 55, 56, 57, 58, 59, 60, 22, 17, 23, 24, 25, 11, 5, 12, 61, 62, 63, 64, 65, 66, 67, 68, 69, 70, 71, 72, 73, 74, 75, 76, 77, 78, 79, 80, 81, 82, 83, 84, 85, 86, 87, 88, 89, 90, 91, 92, 93, 94, 95, 96, 97, 98, 99, 100, 101, 102, 103, 104, 105, 106, 107, 108, 109, 110, 111, 112, 113, 114, 115, 116, 117, 118, 119, 120, 121, 122, 123, 124, 125, 126, 133, 134, 135, 136, 137, 138, 139, 140, 141, 142, 143, 144, 145, 146, 147, 148, 149, 150, 151, 152] (by decide +kernel) (by decide +kernel)
set_option maxRecDepth 20000 in
theorem gX3_would_X1_place_n84 : GoodIn wsX3_would (wsX1_place) := ggX3_would_X1_place
theorem dX3_would_0 : decode cX3_would 0 = .ok (.iload_n 1, 1) := by decide +kernel
theorem dX3_would_1 : decode cX3_would 1 = .ok (.iload_n 2, 1) := by decide +kernel
theorem dX3_would_2 : decode cX3_would 2 = .ok (.iload_n 3, 1) := by decide +kernel
theorem dX3_would_3 : decode cX3_would 3 = .ok (.iload 4, 2) := by decide +kernel
theorem dX3_would_5 : decode cX3_would 5 = .ok (.iload 5, 2) := by decide +kernel
theorem dX3_would_7 : decode cX3_would 7 = .ok (.invokestatic 73, 3) := by decide +kernel
theorem dX3_would_10 : decode cX3_would 10 = .ok (.istore 6, 2) := by decide +kernel
theorem dX3_would_12 : decode cX3_would 12 = .ok (.iload 6, 2) := by decide +kernel
theorem dX3_would_14 : decode cX3_would 14 = .ok (.ifCond .eq 6, 3) := by decide +kernel
theorem dX3_would_17 : decode cX3_would 17 = .ok (.iload 6, 2) := by decide +kernel
theorem dX3_would_19 : decode cX3_would 19 = .ok (.ireturn, 1) := by decide +kernel
theorem dX3_would_20 : decode cX3_would 20 = .ok (.aload_n 0, 1) := by decide +kernel
theorem dX3_would_21 : decode cX3_would 21 = .ok (.getfield 10, 3) := by decide +kernel
theorem dX3_would_24 : decode cX3_would 24 = .ok (.iload_n 1, 1) := by decide +kernel
theorem dX3_would_25 : decode cX3_would 25 = .ok (.iload_n 2, 1) := by decide +kernel
theorem dX3_would_26 : decode cX3_would 26 = .ok (.aload_n 0, 1) := by decide +kernel
theorem dX3_would_27 : decode cX3_would 27 = .ok (.getfield 20, 3) := by decide +kernel
theorem dX3_would_30 : decode cX3_would 30 = .ok (.iload_n 3, 1) := by decide +kernel
theorem dX3_would_31 : decode cX3_would 31 = .ok (.iload 4, 2) := by decide +kernel
theorem dX3_would_33 : decode cX3_would 33 = .ok (.invokevirtual 80, 3) := by decide +kernel
theorem dX3_would_36 : decode cX3_would 36 = .ok (.iload 5, 2) := by decide +kernel
theorem dX3_would_38 : decode cX3_would 38 = .ok (.invokevirtual 84, 3) := by decide +kernel
theorem dX3_would_41 : decode cX3_would 41 = .ok (.aload_n 0, 1) := by decide +kernel
theorem dX3_would_42 : decode cX3_would 42 = .ok (.getfield 10, 3) := by decide +kernel
theorem dX3_would_45 : decode cX3_would 45 = .ok (.getfield 96, 3) := by decide +kernel
theorem dX3_would_48 : decode cX3_would 48 = .ok (.ireturn, 1) := by decide +kernel
set_option maxRecDepth 20000 in
theorem ggX3_back_X3_isBelow : GoodIn wsX3_back wsX3_isBelow := goodIn_r _ [5] (by decide +kernel) (by decide +kernel)
set_option maxRecDepth 20000 in
theorem gX3_back_X3_isBelow : GoodIn wsX3_back (va_wsS RX3 39 yX3_isBelow wsX3_isBelow) := goodIn_app (goodIn_of _ (by decide +kernel)) ggX3_back_X3_isBelow
set_option maxRecDepth 20000 in
theorem ggX3_back_X0_fact : GoodIn wsX3_back wsX0_fact := goodIn_r _ [9, 10, 3, 4, 5, 24, 25, 26, 27, 28] (by decide +kernel) (by decide +kernel)
set_option maxRecDepth 20000 in
theorem gX3_back_X0_fact_n99 : GoodIn wsX3_back (wsX0_fact) := ggX3_back_X0_fact
set_option maxRecDepth 20000 in
theorem ggX3_back_X0_takeBack : GoodIn wsX3_back wsX0_takeBack := goodIn_r _ [13, 14, 15, 16, 7, 17, 10, 3, 4, 5, 24, 25, 26, 27, 28] (by decide +kernel) (by decide +kernel)
set_option maxRecDepth 20000 in
theorem gX3_back_X0_takeBack_n102 : GoodIn wsX3_back (wsX0_takeBack) := ggX3_back_X0_takeBack
theorem dX3_back_0 : decode cX3_back 0 = .ok (.iload_n 1, 1) := by decide +kernel
theorem dX3_back_1 : decode cX3_back 1 = .ok (.aload_n 0, 1) := by decide +kernel
theorem dX3_back_2 : decode cX3_back 2 = .ok (.getfield 20, 3) := by decide +kernel
theorem dX3_back_5 : decode cX3_back 5 = .ok (.getfield 77, 3) := by decide +kernel
theorem dX3_back_8 : decode cX3_back 8 = .ok (.invokestatic 39, 3) := by decide +kernel
theorem dX3_back_11 : decode cX3_back 11 = .ok (.ifCond .ne 5, 3) := by decide +kernel
theorem dX3_back_14 : decode cX3_back 14 = .ok (.iconst (-1), 1) := by decide +kernel
theorem dX3_back_15 : decode cX3_back 15 = .ok (.ireturn, 1) := by decide +kernel
theorem dX3_back_16 : decode cX3_back 16 = .ok (.aload_n 0, 1) := by decide +kernel
theorem dX3_back_17 : decode cX3_back 17 = .ok (.getfield 20, 3) := by decide +kernel
theorem dX3_back_20 : decode cX3_back 20 = .ok (.iload_n 1, 1) := by decide +kernel
theorem dX3_back_21 : decode cX3_back 21 = .ok (.iconst 5, 1) := by decide +kernel
theorem dX3_back_22 : decode cX3_back 22 = .ok (.invokevirtual 99, 3) := by decide +kernel
theorem dX3_back_25 : decode cX3_back 25 = .ok (.aload_n 0, 1) := by decide +kernel
theorem dX3_back_26 : decode cX3_back 26 = .ok (.getfield 20, 3) := by decide +kernel
theorem dX3_back_29 : decode cX3_back 29 = .ok (.getfield 67, 3) := by decide +kernel
theorem dX3_back_32 : decode cX3_back 32 = .ok (.if_icmp .gt 6, 3) := by decide +kernel
theorem dX3_back_35 : decode cX3_back 35 = .ok (.bipush (-3), 2) := by decide +kernel
theorem dX3_back_37 : decode cX3_back 37 = .ok (.ireturn, 1) := by decide +kernel
theorem dX3_back_38 : decode cX3_back 38 = .ok (.aload_n 0, 1) := by decide +kernel
theorem dX3_back_39 : decode cX3_back 39 = .ok (.getfield 20, 3) := by decide +kernel
theorem dX3_back_42 : decode cX3_back 42 = .ok (.iload_n 1, 1) := by decide +kernel
theorem dX3_back_43 : decode cX3_back 43 = .ok (.bipush 6, 2) := by decide +kernel
theorem dX3_back_45 : decode cX3_back 45 = .ok (.invokevirtual 99, 3) := by decide +kernel
theorem dX3_back_48 : decode cX3_back 48 = .ok (.iconst 4, 1) := by decide +kernel
theorem dX3_back_49 : decode cX3_back 49 = .ok (.if_icmp .ne 6, 3) := by decide +kernel
theorem dX3_back_52 : decode cX3_back 52 = .ok (.bipush (-5), 2) := by decide +kernel
theorem dX3_back_54 : decode cX3_back 54 = .ok (.ireturn, 1) := by decide +kernel
theorem dX3_back_55 : decode cX3_back 55 = .ok (.aload_n 0, 1) := by decide +kernel
theorem dX3_back_56 : decode cX3_back 56 = .ok (.getfield 20, 3) := by decide +kernel
theorem dX3_back_59 : decode cX3_back 59 = .ok (.iload_n 1, 1) := by decide +kernel
theorem dX3_back_60 : decode cX3_back 60 = .ok (.bipush 9, 2) := by decide +kernel
theorem dX3_back_62 : decode cX3_back 62 = .ok (.invokevirtual 99, 3) := by decide +kernel
theorem dX3_back_65 : decode cX3_back 65 = .ok (.istore_n 2, 1) := by decide +kernel
theorem dX3_back_66 : decode cX3_back 66 = .ok (.aload_n 0, 1) := by decide +kernel
theorem dX3_back_67 : decode cX3_back 67 = .ok (.getfield 20, 3) := by decide +kernel
theorem dX3_back_70 : decode cX3_back 70 = .ok (.iload_n 1, 1) := by decide +kernel
theorem dX3_back_71 : decode cX3_back 71 = .ok (.invokevirtual 102, 3) := by decide +kernel
theorem dX3_back_74 : decode cX3_back 74 = .ok (.iload_n 2, 1) := by decide +kernel
theorem dX3_back_75 : decode cX3_back 75 = .ok (.ireturn, 1) := by decide +kernel
set_option maxRecDepth 20000 in
theorem ggX3_burst_X3_isBelow : GoodIn wsX3_burst wsX3_isBelow := goodIn_r _ [5] (by decide +kernel) (by decide +kernel)
set_option maxRecDepth 20000 in
theorem gX3_burst_X3_isBelow : GoodIn wsX3_burst (va_wsS RX3 39 yX3_isBelow wsX3_isBelow) := goodIn_app (goodIn_of _ (by decide +kernel)) ggX3_burst_X3_isBelow
set_option maxRecDepth 20000 in
theorem ggX3_burst_X0_fact : GoodIn wsX3_burst wsX0_fact := goodIn_r _ [9, 10, 3, 4, 5, 17, 18, 19, 20, 21] (by decide +kernel) (by decide +kernel)
set_option maxRecDepth 20000 in
theorem gX3_burst_X0_fact_n99 : GoodIn wsX3_burst (wsX0_fact) := ggX3_burst_X0_fact
theorem dX3_burst_0 : decode cX3_burst 0 = .ok (.iload_n 1, 1) := by decide +kernel
theorem dX3_burst_1 : decode cX3_burst 1 = .ok (.aload_n 0, 1) := by decide +kernel
theorem dX3_burst_2 : decode cX3_burst 2 = .ok (.getfield 20, 3) := by decide +kernel
theorem dX3_burst_5 : decode cX3_burst 5 = .ok (.getfield 77, 3) := by decide +kernel
theorem dX3_burst_8 : decode cX3_burst 8 = .ok (.invokestatic 39, 3) := by decide +kernel
theorem dX3_burst_11 : decode cX3_burst 11 = .ok (.ifCond .ne 5, 3) := by decide +kernel
theorem dX3_burst_14 : decode cX3_burst 14 = .ok (.iconst (-1), 1) := by decide +kernel
theorem dX3_burst_15 : decode cX3_burst 15 = .ok (.ireturn, 1) := by decide +kernel
theorem dX3_burst_16 : decode cX3_burst 16 = .ok (.iload_n 2, 1) := by decide +kernel
theorem dX3_burst_17 : decode cX3_burst 17 = .ok (.bipush 11, 2) := by decide +kernel
theorem dX3_burst_19 : decode cX3_burst 19 = .ok (.invokestatic 39, 3) := by decide +kernel
theorem dX3_burst_22 : decode cX3_burst 22 = .ok (.ifCond .eq 15, 3) := by decide +kernel
theorem dX3_burst_25 : decode cX3_burst 25 = .ok (.aload_n 0, 1) := by decide +kernel
theorem dX3_burst_26 : decode cX3_burst 26 = .ok (.getfield 20, 3) := by decide +kernel
theorem dX3_burst_29 : decode cX3_burst 29 = .ok (.iload_n 1, 1) := by decide +kernel
theorem dX3_burst_30 : decode cX3_burst 30 = .ok (.iload_n 2, 1) := by decide +kernel
theorem dX3_burst_31 : decode cX3_burst 31 = .ok (.invokevirtual 99, 3) := by decide +kernel
theorem dX3_burst_34 : decode cX3_burst 34 = .ok (.goto 5, 3) := by decide +kernel
theorem dX3_burst_37 : decode cX3_burst 37 = .ok (.bipush (-2), 2) := by decide +kernel
theorem dX3_burst_39 : decode cX3_burst 39 = .ok (.ireturn, 1) := by decide +kernel
set_option maxRecDepth 20000 in
theorem ggX3_booking_X3_isColour : GoodIn wsX3_booking wsX3_isColour := goodIn_r _ [6, 7, 8, 5, 9] (by decide +kernel) (by decide +kernel)
set_option maxRecDepth 20000 in
theorem gX3_booking_X3_isColour : GoodIn wsX3_booking (va_wsS RX3 105 yX3_isColour wsX3_isColour) := goodIn_app (goodIn_of _ (by decide +kernel)) ggX3_booking_X3_isColour
set_option maxRecDepth 20000 in
theorem ggX3_booking_X0_showColour : GoodIn wsX3_booking wsX0_showColour := goodIn_r _ [13, 14, 15, 16, 17, 18, 19, 20, 21, 22, 11, 23, 24, 8, 5, 9, 25, 26, 27, 28, 29, 30, 54, 55, 56, 57, 58, 59, 60, 61, 62] (by decide +kernel) (by decide +kernel)
set_option maxRecDepth 20000 in
theorem gX3_booking_X0_showColour_n108 : GoodIn wsX3_booking (wsX0_showColour) := ggX3_booking_X0_showColour
set_option maxRecDepth 20000 in
theorem ggX3_booking_X3_ofBooking : GoodIn wsX3_booking wsX3_ofBooking := goodIn_r _ [34, 2, 35, 16, 36, 37, 28, 38, 39, 40, 41, 19, 8, 5, 9, 42, 43, 44, 30, 45, 46, 47, 29, 48, 49, 50, 51, 52, 53, 59, 60, 61, 62] (by decide +kernel) (by decide +kernel)
set_option maxRecDepth 20000 in
theorem gX3_booking_X3_ofBooking : GoodIn wsX3_booking (wsV RX3 112 RX3 yX3_ofBooking wsX3_ofBooking) := goodIn_app (goodIn_of _ (by decide +kernel)) ggX3_booking_X3_ofBooking
theorem dX3_booking_0 : decode cX3_booking 0 = .ok (.iload_n 1, 1) := by decide +kernel
theorem dX3_booking_1 : decode cX3_booking 1 = .ok (.iload_n 2, 1) := by decide +kernel
theorem dX3_booking_2 : decode cX3_booking 2 = .ok (.invokestatic 105, 3) := by decide +kernel
theorem dX3_booking_5 : decode cX3_booking 5 = .ok (.ifCond .ne 5, 3) := by decide +kernel
theorem dX3_booking_8 : decode cX3_booking 8 = .ok (.iconst (-1), 1) := by decide +kernel
theorem dX3_booking_9 : decode cX3_booking 9 = .ok (.ireturn, 1) := by decide +kernel
theorem dX3_booking_10 : decode cX3_booking 10 = .ok (.aload_n 0, 1) := by decide +kernel
theorem dX3_booking_11 : decode cX3_booking 11 = .ok (.getfield 20, 3) := by decide +kernel
theorem dX3_booking_14 : decode cX3_booking 14 = .ok (.iload_n 1, 1) := by decide +kernel
theorem dX3_booking_15 : decode cX3_booking 15 = .ok (.iload_n 2, 1) := by decide +kernel
theorem dX3_booking_16 : decode cX3_booking 16 = .ok (.aload_n 0, 1) := by decide +kernel
theorem dX3_booking_17 : decode cX3_booking 17 = .ok (.getfield 25, 3) := by decide +kernel
theorem dX3_booking_20 : decode cX3_booking 20 = .ok (.invokevirtual 108, 3) := by decide +kernel
theorem dX3_booking_23 : decode cX3_booking 23 = .ok (.aload_n 0, 1) := by decide +kernel
theorem dX3_booking_24 : decode cX3_booking 24 = .ok (.iload_n 3, 1) := by decide +kernel
theorem dX3_booking_25 : decode cX3_booking 25 = .ok (.iload 4, 2) := by decide +kernel
theorem dX3_booking_27 : decode cX3_booking 27 = .ok (.invokevirtual 112, 3) := by decide +kernel
theorem dX3_booking_30 : decode cX3_booking 30 = .ok (.ireturn, 1) := by decide +kernel
set_option maxRecDepth 20000 in
theorem ggX3_held_X3_isBelow : GoodIn wsX3_held wsX3_isBelow := goodIn_r _ [6] (by decide +kernel) (by decide +kernel)
set_option maxRecDepth 20000 in
theorem gX3_held_X3_isBelow : GoodIn wsX3_held (va_wsS RX3 39 yX3_isBelow wsX3_isBelow) := goodIn_app (goodIn_of _ (by decide +kernel)) ggX3_held_X3_isBelow
set_option maxRecDepth 20000 in
theorem ggX3_held_X0_showLine : GoodIn wsX3_held wsX0_showLine := goodIn_r _ [10, 11, 12, 13, 14, 15, 16, 17, 18, 19, 8, 20, 21, 4, 5, 6, 22, 23, 24, 25, 26, 27, 51, 52, 53, 54, 55, 56, 57, 58, 59] (by decide +kernel) (by decide +kernel)
set_option maxRecDepth 20000 in
theorem gX3_held_X0_showLine_n57 : GoodIn wsX3_held (wsX0_showLine) := ggX3_held_X0_showLine
set_option maxRecDepth 20000 in
theorem ggX3_held_X3_ofBooking : GoodIn wsX3_held wsX3_ofBooking := goodIn_r _ [31, 2, 32, 13, 33, 34, 25, 35, 36, 37, 38, 16, 4, 5, 6, 39, 40, 41, 27, 42, 43, 44, 26, 45, 46, 47, 48, 49, 50, 56, 57, 58, 59] (by decide +kernel) (by decide +kernel)
set_option maxRecDepth 20000 in
theorem gX3_held_X3_ofBooking : GoodIn wsX3_held (wsV RX3 112 RX3 yX3_ofBooking wsX3_ofBooking) := goodIn_app (goodIn_of _ (by decide +kernel)) ggX3_held_X3_ofBooking
theorem dX3_held_0 : decode cX3_held 0 = .ok (.iload_n 1, 1) := by decide +kernel
theorem dX3_held_1 : decode cX3_held 1 = .ok (.iconst 3, 1) := by decide +kernel
theorem dX3_held_2 : decode cX3_held 2 = .ok (.invokestatic 39, 3) := by decide +kernel
theorem dX3_held_5 : decode cX3_held 5 = .ok (.ifCond .ne 5, 3) := by decide +kernel
theorem dX3_held_8 : decode cX3_held 8 = .ok (.iconst (-1), 1) := by decide +kernel
theorem dX3_held_9 : decode cX3_held 9 = .ok (.ireturn, 1) := by decide +kernel
theorem dX3_held_10 : decode cX3_held 10 = .ok (.aload_n 0, 1) := by decide +kernel
theorem dX3_held_11 : decode cX3_held 11 = .ok (.getfield 20, 3) := by decide +kernel
theorem dX3_held_14 : decode cX3_held 14 = .ok (.iload_n 1, 1) := by decide +kernel
theorem dX3_held_15 : decode cX3_held 15 = .ok (.aload_n 0, 1) := by decide +kernel
theorem dX3_held_16 : decode cX3_held 16 = .ok (.getfield 25, 3) := by decide +kernel
theorem dX3_held_19 : decode cX3_held 19 = .ok (.invokevirtual 57, 3) := by decide +kernel
theorem dX3_held_22 : decode cX3_held 22 = .ok (.aload_n 0, 1) := by decide +kernel
theorem dX3_held_23 : decode cX3_held 23 = .ok (.iload_n 2, 1) := by decide +kernel
theorem dX3_held_24 : decode cX3_held 24 = .ok (.iload_n 3, 1) := by decide +kernel
theorem dX3_held_25 : decode cX3_held 25 = .ok (.invokevirtual 112, 3) := by decide +kernel
theorem dX3_held_28 : decode cX3_held 28 = .ok (.ireturn, 1) := by decide +kernel
set_option maxRecDepth 20000 in
theorem ggX3_busy_X3_isColour : GoodIn wsX3_busy wsX3_isColour := goodIn_r _ [6, 7, 8, 5, 9] (by decide +kernel) (by decide +kernel)
set_option maxRecDepth 20000 in
theorem gX3_busy_X3_isColour : GoodIn wsX3_busy (va_wsS RX3 105 yX3_isColour wsX3_isColour) := goodIn_app (goodIn_of _ (by decide +kernel)) ggX3_busy_X3_isColour
set_option maxRecDepth 20000 in
theorem ggX3_busy_X3_isSpan : GoodIn wsX3_busy wsX3_isSpan := goodIn_r _ [12, 13, 14, 5, 15] (by decide +kernel) (by decide +kernel)
set_option maxRecDepth 20000 in
theorem gX3_busy_X3_isSpan : GoodIn wsX3_busy (va_wsS RX3 115 yX3_isSpan wsX3_isSpan) := goodIn_app (goodIn_of _ (by decide +kernel)) ggX3_busy_X3_isSpan
set_option maxRecDepth 20000 in
theorem ggX3_busy_X0_showColour : GoodIn wsX3_busy wsX0_showColour := goodIn_r _ [19, 20, 21, 22, 23, 24, 25, 26, 27, 28, 17, 29, 30, 8, 5, 9, 31, 32, 33, 34, 35, 36, 53, 54, 55, 56, 57, 58, 59, 60, 61] (by decide +kernel) (by decide +kernel)
set_option maxRecDepth 20000 in
theorem gX3_busy_X0_showColour_n108 : GoodIn wsX3_busy (wsX0_showColour) := ggX3_busy_X0_showColour
set_option maxRecDepth 20000 in
theorem ggX3_busy_X2_bookedTicks : GoodIn wsX3_busy wsX2_bookedTicks := goodIn_r _ [39, 25, 36, 40, 41, 42, 43, 34, 44, 45, 46, 58, 59, 60, 61] (by decide +kernel) (by decide +kernel)
set_option maxRecDepth 20000 in
theorem gX3_busy_X2_bookedTicks_n118 : GoodIn wsX3_busy (wsX2_bookedTicks) := ggX3_busy_X2_bookedTicks
theorem dX3_busy_0 : decode cX3_busy 0 = .ok (.iload_n 1, 1) := by decide +kernel
theorem dX3_busy_1 : decode cX3_busy 1 = .ok (.iload_n 2, 1) := by decide +kernel
theorem dX3_busy_2 : decode cX3_busy 2 = .ok (.invokestatic 105, 3) := by decide +kernel
theorem dX3_busy_5 : decode cX3_busy 5 = .ok (.ifCond .ne 5, 3) := by decide +kernel
theorem dX3_busy_8 : decode cX3_busy 8 = .ok (.iconst (-1), 1) := by decide +kernel
theorem dX3_busy_9 : decode cX3_busy 9 = .ok (.ireturn, 1) := by decide +kernel
theorem dX3_busy_10 : decode cX3_busy 10 = .ok (.iload_n 3, 1) := by decide +kernel
theorem dX3_busy_11 : decode cX3_busy 11 = .ok (.iload 4, 2) := by decide +kernel
theorem dX3_busy_13 : decode cX3_busy 13 = .ok (.invokestatic 115, 3) := by decide +kernel
theorem dX3_busy_16 : decode cX3_busy 16 = .ok (.ifCond .ne 6, 3) := by decide +kernel
theorem dX3_busy_19 : decode cX3_busy 19 = .ok (.bipush (-2), 2) := by decide +kernel
theorem dX3_busy_21 : decode cX3_busy 21 = .ok (.ireturn, 1) := by decide +kernel
theorem dX3_busy_22 : decode cX3_busy 22 = .ok (.aload_n 0, 1) := by decide +kernel
theorem dX3_busy_23 : decode cX3_busy 23 = .ok (.getfield 20, 3) := by decide +kernel
theorem dX3_busy_26 : decode cX3_busy 26 = .ok (.iload_n 1, 1) := by decide +kernel
theorem dX3_busy_27 : decode cX3_busy 27 = .ok (.iload_n 2, 1) := by decide +kernel
theorem dX3_busy_28 : decode cX3_busy 28 = .ok (.aload_n 0, 1) := by decide +kernel
theorem dX3_busy_29 : decode cX3_busy 29 = .ok (.getfield 25, 3) := by decide +kernel
theorem dX3_busy_32 : decode cX3_busy 32 = .ok (.invokevirtual 108, 3) := by decide +kernel
theorem dX3_busy_35 : decode cX3_busy 35 = .ok (.aload_n 0, 1) := by decide +kernel
theorem dX3_busy_36 : decode cX3_busy 36 = .ok (.getfield 25, 3) := by decide +kernel
theorem dX3_busy_39 : decode cX3_busy 39 = .ok (.iload_n 3, 1) := by decide +kernel
theorem dX3_busy_40 : decode cX3_busy 40 = .ok (.iload_n 3, 1) := by decide +kernel
theorem dX3_busy_41 : decode cX3_busy 41 = .ok (.iload 4, 2) := by decide +kernel
theorem dX3_busy_43 : decode cX3_busy 43 = .ok (.iadd, 1) := by decide +kernel
theorem dX3_busy_44 : decode cX3_busy 44 = .ok (.invokevirtual 118, 3) := by decide +kernel
theorem dX3_busy_47 : decode cX3_busy 47 = .ok (.ireturn, 1) := by decide +kernel
set_option maxRecDepth 20000 in
theorem ggX3_free_X3_isBelow : GoodIn wsX3_free wsX3_isBelow := goodIn_r _ [6] (by decide +kernel) (by decide +kernel)
set_option maxRecDepth 20000 in
theorem gX3_free_X3_isBelow : GoodIn wsX3_free (va_wsS RX3 39 yX3_isBelow wsX3_isBelow) := goodIn_app (goodIn_of _ (by decide +kernel)) ggX3_free_X3_isBelow
set_option maxRecDepth 20000 in
theorem ggX3_free_X3_isSpan : GoodIn wsX3_free wsX3_isSpan := goodIn_r _ [9, 10, 11, 5, 12] (by decide +kernel) (by decide +kernel)
set_option maxRecDepth 20000 in
theorem gX3_free_X3_isSpan : GoodIn wsX3_free (va_wsS RX3 115 yX3_isSpan wsX3_isSpan) := goodIn_app (goodIn_of _ (by decide +kernel)) ggX3_free_X3_isSpan
set_option maxRecDepth 20000 in
theorem ggX3_free_X0_showColour : GoodIn wsX3_free wsX0_showColour := goodIn_r _ [16, 17, 18, 19, 20, 21, 22, 23, 24, 25, 14, 26, 27, 4, 5, 6, 28, 29, 30, 31, 32, 33, 54, 55, 56, 57, 58, 59, 60, 61, 62] (by decide +kernel) (by decide +kernel)
set_option maxRecDepth 20000 in
theorem gX3_free_X0_showColour_n108 : GoodIn wsX3_free (wsX0_showColour) := ggX3_free_X0_showColour
set_option maxRecDepth 20000 in
theorem ggX3_free_X2_isFree : GoodIn wsX3_free wsX2_isFree := goodIn_r _ [36, 37, 38, 39, 19, 40, 22, 33, 31, 41, 42, 43, 44, 45, 46, 47, 59, 60, 61, 62] (by decide +kernel) (by decide +kernel)
set_option maxRecDepth 20000 in
theorem gX3_free_X2_isFree_n121 : GoodIn wsX3_free (wsX2_isFree) := ggX3_free_X2_isFree
theorem dX3_free_0 : decode cX3_free 0 = .ok (.iload_n 1, 1) := by decide +kernel
theorem dX3_free_1 : decode cX3_free 1 = .ok (.iconst 2, 1) := by decide +kernel
theorem dX3_free_2 : decode cX3_free 2 = .ok (.invokestatic 39, 3) := by decide +kernel
theorem dX3_free_5 : decode cX3_free 5 = .ok (.ifCond .ne 5, 3) := by decide +kernel
theorem dX3_free_8 : decode cX3_free 8 = .ok (.iconst (-1), 1) := by decide +kernel
theorem dX3_free_9 : decode cX3_free 9 = .ok (.ireturn, 1) := by decide +kernel
theorem dX3_free_10 : decode cX3_free 10 = .ok (.iload_n 2, 1) := by decide +kernel
theorem dX3_free_11 : decode cX3_free 11 = .ok (.iload_n 3, 1) := by decide +kernel
theorem dX3_free_12 : decode cX3_free 12 = .ok (.invokestatic 115, 3) := by decide +kernel
theorem dX3_free_15 : decode cX3_free 15 = .ok (.ifCond .ne 6, 3) := by decide +kernel
theorem dX3_free_18 : decode cX3_free 18 = .ok (.bipush (-2), 2) := by decide +kernel
theorem dX3_free_20 : decode cX3_free 20 = .ok (.ireturn, 1) := by decide +kernel
theorem dX3_free_21 : decode cX3_free 21 = .ok (.iconst 0, 1) := by decide +kernel
theorem dX3_free_22 : decode cX3_free 22 = .ok (.istore 4, 2) := by decide +kernel
theorem dX3_free_24 : decode cX3_free 24 = .ok (.iconst 0, 1) := by decide +kernel
theorem dX3_free_25 : decode cX3_free 25 = .ok (.istore 5, 2) := by decide +kernel
theorem dX3_free_27 : decode cX3_free 27 = .ok (.iload 5, 2) := by decide +kernel
theorem dX3_free_29 : decode cX3_free 29 = .ok (.bipush 6, 2) := by decide +kernel
theorem dX3_free_31 : decode cX3_free 31 = .ok (.if_icmp .ge 47, 3) := by decide +kernel
theorem dX3_free_34 : decode cX3_free 34 = .ok (.aload_n 0, 1) := by decide +kernel
theorem dX3_free_35 : decode cX3_free 35 = .ok (.getfield 20, 3) := by decide +kernel
theorem dX3_free_38 : decode cX3_free 38 = .ok (.iload_n 1, 1) := by decide +kernel
theorem dX3_free_39 : decode cX3_free 39 = .ok (.iload 5, 2) := by decide +kernel
theorem dX3_free_41 : decode cX3_free 41 = .ok (.aload_n 0, 1) := by decide +kernel
theorem dX3_free_42 : decode cX3_free 42 = .ok (.getfield 25, 3) := by decide +kernel
theorem dX3_free_45 : decode cX3_free 45 = .ok (.invokevirtual 108, 3) := by decide +kernel
theorem dX3_free_48 : decode cX3_free 48 = .ok (.aload_n 0, 1) := by decide +kernel
theorem dX3_free_49 : decode cX3_free 49 = .ok (.getfield 25, 3) := by decide +kernel
theorem dX3_free_52 : decode cX3_free 52 = .ok (.iload_n 2, 1) := by decide +kernel
theorem dX3_free_53 : decode cX3_free 53 = .ok (.iload_n 2, 1) := by decide +kernel
theorem dX3_free_54 : decode cX3_free 54 = .ok (.iload_n 3, 1) := by decide +kernel
theorem dX3_free_55 : decode cX3_free 55 = .ok (.iadd, 1) := by decide +kernel
theorem dX3_free_56 : decode cX3_free 56 = .ok (.iconst 1, 1) := by decide +kernel
theorem dX3_free_57 : decode cX3_free 57 = .ok (.invokevirtual 121, 3) := by decide +kernel
theorem dX3_free_60 : decode cX3_free 60 = .ok (.ifCond .eq 12, 3) := by decide +kernel
theorem dX3_free_63 : decode cX3_free 63 = .ok (.iload 4, 2) := by decide +kernel
theorem dX3_free_65 : decode cX3_free 65 = .ok (.iconst 1, 1) := by decide +kernel
theorem dX3_free_66 : decode cX3_free 66 = .ok (.iload 5, 2) := by decide +kernel
theorem dX3_free_68 : decode cX3_free 68 = .ok (.ishl, 1) := by decide +kernel
theorem dX3_free_69 : decode cX3_free 69 = .ok (.ior, 1) := by decide +kernel
theorem dX3_free_70 : decode cX3_free 70 = .ok (.istore 4, 2) := by decide +kernel
theorem dX3_free_72 : decode cX3_free 72 = .ok (.iinc 5 1, 3) := by decide +kernel
theorem dX3_free_75 : decode cX3_free 75 = .ok (.goto (-48), 3) := by decide +kernel
theorem dX3_free_78 : decode cX3_free 78 = .ok (.iload 4, 2) := by decide +kernel
theorem dX3_free_80 : decode cX3_free 80 = .ok (.ireturn, 1) := by decide +kernel
set_option maxRecDepth 20000 in
theorem ggX3_next_X3_isColour : GoodIn wsX3_next wsX3_isColour := goodIn_r _ [6, 7, 8, 5, 9] (by decide +kernel) (by decide +kernel)
set_option maxRecDepth 20000 in
theorem gX3_next_X3_isColour : GoodIn wsX3_next (va_wsS RX3 105 yX3_isColour wsX3_isColour) := goodIn_app (goodIn_of _ (by decide +kernel)) ggX3_next_X3_isColour
set_option maxRecDepth 20000 in
theorem ggX3_next_X3_isSpan : GoodIn wsX3_next wsX3_isSpan := goodIn_r _ [12, 13, 14, 5, 15] (by decide +kernel) (by decide +kernel)
set_option maxRecDepth 20000 in
theorem gX3_next_X3_isSpan : GoodIn wsX3_next (va_wsS RX3 115 yX3_isSpan wsX3_isSpan) := goodIn_app (goodIn_of _ (by decide +kernel)) ggX3_next_X3_isSpan
set_option maxRecDepth 20000 in
theorem ggX3_next_X0_showColour : GoodIn wsX3_next wsX0_showColour := goodIn_r _ [19, 20, 21, 22, 23, 24, 25, 26, 27, 28, 17, 29, 30, 8, 5, 9, 31, 32, 33, 34, 35, 36, 46, 47, 48, 49, 50, 51, 52, 53, 54] (by decide +kernel) (by decide +kernel)
set_option maxRecDepth 20000 in
theorem gX3_next_X0_showColour_n108 : GoodIn wsX3_next (wsX0_showColour) := ggX3_next_X0_showColour
set_option maxRecDepth 20000 in
theorem ggX3_next_X2_firstFree : GoodIn wsX3_next wsX2_firstFree := goodIn_r _ [39, 25, 34, 36, 51, 52, 53, 54] (by decide +kernel) (by decide +kernel)
set_option maxRecDepth 20000 in
theorem gX3_next_X2_firstFree_n125 : GoodIn wsX3_next (wsX2_firstFree) := ggX3_next_X2_firstFree
theorem dX3_next_0 : decode cX3_next 0 = .ok (.iload_n 1, 1) := by decide +kernel
theorem dX3_next_1 : decode cX3_next 1 = .ok (.iload_n 2, 1) := by decide +kernel
theorem dX3_next_2 : decode cX3_next 2 = .ok (.invokestatic 105, 3) := by decide +kernel
theorem dX3_next_5 : decode cX3_next 5 = .ok (.ifCond .ne 5, 3) := by decide +kernel
theorem dX3_next_8 : decode cX3_next 8 = .ok (.iconst (-1), 1) := by decide +kernel
theorem dX3_next_9 : decode cX3_next 9 = .ok (.ireturn, 1) := by decide +kernel
theorem dX3_next_10 : decode cX3_next 10 = .ok (.iload_n 3, 1) := by decide +kernel
theorem dX3_next_11 : decode cX3_next 11 = .ok (.iload 4, 2) := by decide +kernel
theorem dX3_next_13 : decode cX3_next 13 = .ok (.invokestatic 115, 3) := by decide +kernel
theorem dX3_next_16 : decode cX3_next 16 = .ok (.ifCond .ne 6, 3) := by decide +kernel
theorem dX3_next_19 : decode cX3_next 19 = .ok (.bipush (-2), 2) := by decide +kernel
theorem dX3_next_21 : decode cX3_next 21 = .ok (.ireturn, 1) := by decide +kernel
theorem dX3_next_22 : decode cX3_next 22 = .ok (.aload_n 0, 1) := by decide +kernel
theorem dX3_next_23 : decode cX3_next 23 = .ok (.getfield 20, 3) := by decide +kernel
theorem dX3_next_26 : decode cX3_next 26 = .ok (.iload_n 1, 1) := by decide +kernel
theorem dX3_next_27 : decode cX3_next 27 = .ok (.iload_n 2, 1) := by decide +kernel
theorem dX3_next_28 : decode cX3_next 28 = .ok (.aload_n 0, 1) := by decide +kernel
theorem dX3_next_29 : decode cX3_next 29 = .ok (.getfield 25, 3) := by decide +kernel
theorem dX3_next_32 : decode cX3_next 32 = .ok (.invokevirtual 108, 3) := by decide +kernel
theorem dX3_next_35 : decode cX3_next 35 = .ok (.aload_n 0, 1) := by decide +kernel
theorem dX3_next_36 : decode cX3_next 36 = .ok (.getfield 25, 3) := by decide +kernel
theorem dX3_next_39 : decode cX3_next 39 = .ok (.iload_n 3, 1) := by decide +kernel
theorem dX3_next_40 : decode cX3_next 40 = .ok (.iload 4, 2) := by decide +kernel
theorem dX3_next_42 : decode cX3_next 42 = .ok (.invokevirtual 125, 3) := by decide +kernel
theorem dX3_next_45 : decode cX3_next 45 = .ok (.ireturn, 1) := by decide +kernel
set_option maxRecDepth 20000 in
theorem ggX3_hole_X3_isColour : GoodIn wsX3_hole wsX3_isColour := goodIn_r _ [6, 7, 8, 5, 9] (by decide +kernel) (by decide +kernel)
set_option maxRecDepth 20000 in
theorem gX3_hole_X3_isColour : GoodIn wsX3_hole (va_wsS RX3 105 yX3_isColour wsX3_isColour) := goodIn_app (goodIn_of _ (by decide +kernel)) ggX3_hole_X3_isColour
set_option maxRecDepth 20000 in
theorem ggX3_hole_X3_isBelow : GoodIn wsX3_hole wsX3_isBelow := goodIn_r _ [9] (by decide +kernel) (by decide +kernel)
set_option maxRecDepth 20000 in
theorem gX3_hole_X3_isBelow : GoodIn wsX3_hole (va_wsS RX3 39 yX3_isBelow wsX3_isBelow) := goodIn_app (goodIn_of _ (by decide +kernel)) ggX3_hole_X3_isBelow
set_option maxRecDepth 20000 in
theorem ggX3_hole_X0_showColour : GoodIn wsX3_hole wsX0_showColour := goodIn_r _ [13, 14, 15, 16, 17, 18, 19, 20, 21, 22, 11, 23, 24, 8, 5, 9, 25, 26, 27, 28, 29, 30, 55, 56, 57, 58, 59, 60, 61, 62, 63] (by decide +kernel) (by decide +kernel)
set_option maxRecDepth 20000 in
theorem gX3_hole_X0_showColour_n108 : GoodIn wsX3_hole (wsX0_showColour) := ggX3_hole_X0_showColour
set_option maxRecDepth 20000 in
theorem ggX3_hole_X2_closingOfVoid : GoodIn wsX3_hole wsX2_closingOfVoid := goodIn_r _ [33, 19, 28, 34, 35, 36, 16, 37, 30, 38, 39, 40, 41, 42, 43, 44, 45, 8, 5, 9, 60, 61, 62, 63] (by decide +kernel) (by decide +kernel)
set_option maxRecDepth 20000 in
theorem gX3_hole_X2_closingOfVoid_n128 : GoodIn wsX3_hole (wsX2_closingOfVoid) := ggX3_hole_X2_closingOfVoid
set_option maxRecDepth 20000 in
theorem ggX3_hole_X2_voidBefore : GoodIn wsX3_hole wsX2_voidBefore := goodIn_r _ [37, 30, 38, 39, 40, 41, 42, 43, 44, 16, 45, 19, 8, 5, 9, 60, 61, 62, 63] (by decide +kernel) (by decide +kernel)
set_option maxRecDepth 20000 in
theorem gX3_hole_X2_voidBefore_n131 : GoodIn wsX3_hole (wsX2_voidBefore) := ggX3_hole_X2_voidBefore
set_option maxRecDepth 20000 in
theorem ggX3_hole_X2_begin : GoodIn wsX3_hole wsX2_begin := goodIn_r _ [48, 28, 42, 43, 44, 16, 45, 19, 8, 5, 9, 60, 61, 62, 63] (by decide +kernel) (by decide +kernel)
set_option maxRecDepth 20000 in
theorem gX3_hole_X2_begin_n134 : GoodIn wsX3_hole (wsX2_begin) := ggX3_hole_X2_begin
theorem dX3_hole_0 : decode cX3_hole 0 = .ok (.iload_n 1, 1) := by decide +kernel
theorem dX3_hole_1 : decode cX3_hole 1 = .ok (.iload_n 2, 1) := by decide +kernel
theorem dX3_hole_2 : decode cX3_hole 2 = .ok (.invokestatic 105, 3) := by decide +kernel
theorem dX3_hole_5 : decode cX3_hole 5 = .ok (.ifCond .ne 5, 3) := by decide +kernel
theorem dX3_hole_8 : decode cX3_hole 8 = .ok (.iconst (-1), 1) := by decide +kernel
theorem dX3_hole_9 : decode cX3_hole 9 = .ok (.ireturn, 1) := by decide +kernel
theorem dX3_hole_10 : decode cX3_hole 10 = .ok (.iload 4, 2) := by decide +kernel
theorem dX3_hole_12 : decode cX3_hole 12 = .ok (.iconst 2, 1) := by decide +kernel
theorem dX3_hole_13 : decode cX3_hole 13 = .ok (.invokestatic 39, 3) := by decide +kernel
theorem dX3_hole_16 : decode cX3_hole 16 = .ok (.ifCond .ne 6, 3) := by decide +kernel
theorem dX3_hole_19 : decode cX3_hole 19 = .ok (.bipush (-2), 2) := by decide +kernel
theorem dX3_hole_21 : decode cX3_hole 21 = .ok (.ireturn, 1) := by decide +kernel
theorem dX3_hole_22 : decode cX3_hole 22 = .ok (.aload_n 0, 1) := by decide +kernel
theorem dX3_hole_23 : decode cX3_hole 23 = .ok (.getfield 20, 3) := by decide +kernel
theorem dX3_hole_26 : decode cX3_hole 26 = .ok (.iload_n 1, 1) := by decide +kernel
theorem dX3_hole_27 : decode cX3_hole 27 = .ok (.iload_n 2, 1) := by decide +kernel
theorem dX3_hole_28 : decode cX3_hole 28 = .ok (.aload_n 0, 1) := by decide +kernel
theorem dX3_hole_29 : decode cX3_hole 29 = .ok (.getfield 25, 3) := by decide +kernel
theorem dX3_hole_32 : decode cX3_hole 32 = .ok (.invokevirtual 108, 3) := by decide +kernel
theorem dX3_hole_35 : decode cX3_hole 35 = .ok (.aload_n 0, 1) := by decide +kernel
theorem dX3_hole_36 : decode cX3_hole 36 = .ok (.getfield 25, 3) := by decide +kernel
theorem dX3_hole_39 : decode cX3_hole 39 = .ok (.iload_n 3, 1) := by decide +kernel
theorem dX3_hole_40 : decode cX3_hole 40 = .ok (.aload_n 0, 1) := by decide +kernel
theorem dX3_hole_41 : decode cX3_hole 41 = .ok (.getfield 20, 3) := by decide +kernel
theorem dX3_hole_44 : decode cX3_hole 44 = .ok (.getfield 67, 3) := by decide +kernel
theorem dX3_hole_47 : decode cX3_hole 47 = .ok (.invokevirtual 128, 3) := by decide +kernel
theorem dX3_hole_50 : decode cX3_hole 50 = .ok (.istore 5, 2) := by decide +kernel
theorem dX3_hole_52 : decode cX3_hole 52 = .ok (.iload 5, 2) := by decide +kernel
theorem dX3_hole_54 : decode cX3_hole 54 = .ok (.bipush (-6), 2) := by decide +kernel
theorem dX3_hole_56 : decode cX3_hole 56 = .ok (.if_icmp .ne 6, 3) := by decide +kernel
theorem dX3_hole_59 : decode cX3_hole 59 = .ok (.bipush (-6), 2) := by decide +kernel
theorem dX3_hole_61 : decode cX3_hole 61 = .ok (.ireturn, 1) := by decide +kernel
theorem dX3_hole_62 : decode cX3_hole 62 = .ok (.aload_n 0, 1) := by decide +kernel
theorem dX3_hole_63 : decode cX3_hole 63 = .ok (.getfield 25, 3) := by decide +kernel
theorem dX3_hole_66 : decode cX3_hole 66 = .ok (.iload 5, 2) := by decide +kernel
theorem dX3_hole_68 : decode cX3_hole 68 = .ok (.aload_n 0, 1) := by decide +kernel
theorem dX3_hole_69 : decode cX3_hole 69 = .ok (.getfield 20, 3) := by decide +kernel
theorem dX3_hole_72 : decode cX3_hole 72 = .ok (.getfield 67, 3) := by decide +kernel
theorem dX3_hole_75 : decode cX3_hole 75 = .ok (.invokevirtual 131, 3) := by decide +kernel
theorem dX3_hole_78 : decode cX3_hole 78 = .ok (.istore 6, 2) := by decide +kernel
theorem dX3_hole_80 : decode cX3_hole 80 = .ok (.iload 4, 2) := by decide +kernel
theorem dX3_hole_82 : decode cX3_hole 82 = .ok (.ifCond .ne 8, 3) := by decide +kernel
theorem dX3_hole_85 : decode cX3_hole 85 = .ok (.iload 6, 2) := by decide +kernel
theorem dX3_hole_87 : decode cX3_hole 87 = .ok (.goto 15, 3) := by decide +kernel
theorem dX3_hole_90 : decode cX3_hole 90 = .ok (.aload_n 0, 1) := by decide +kernel
theorem dX3_hole_91 : decode cX3_hole 91 = .ok (.getfield 25, 3) := by decide +kernel
theorem dX3_hole_94 : decode cX3_hole 94 = .ok (.iload 5, 2) := by decide +kernel
theorem dX3_hole_96 : decode cX3_hole 96 = .ok (.invokevirtual 134, 3) := by decide +kernel
theorem dX3_hole_99 : decode cX3_hole 99 = .ok (.iload 6, 2) := by decide +kernel
theorem dX3_hole_101 : decode cX3_hole 101 = .ok (.isub, 1) := by decide +kernel
theorem dX3_hole_102 : decode cX3_hole 102 = .ok (.ireturn, 1) := by decide +kernel
set_option maxRecDepth 20000 in
theorem ggX3_tally_X3_isBelow : GoodIn wsX3_tally wsX3_isBelow := goodIn_r _ [5] (by decide +kernel) (by decide +kernel)
set_option maxRecDepth 20000 in
theorem gX3_tally_X3_isBelow : GoodIn wsX3_tally (va_wsS RX3 39 yX3_isBelow wsX3_isBelow) := goodIn_app (goodIn_of _ (by decide +kernel)) ggX3_tally_X3_isBelow
set_option maxRecDepth 20000 in
theorem ggX3_tally_X0_burstsOfClass : GoodIn wsX3_tally wsX0_burstsOfClass := goodIn_r _ [9, 10, 11, 12, 13, 7, 14, 15, 16, 17, 18, 19, 3, 4, 5, 39, 40, 41, 42, 43] (by decide +kernel) (by decide +kernel)
set_option maxRecDepth 20000 in
theorem gX3_tally_X0_burstsOfClass_n138 : GoodIn wsX3_tally (wsX0_burstsOfClass) := ggX3_tally_X0_burstsOfClass
set_option maxRecDepth 20000 in
theorem ggX3_tally_X0_sumOfClass : GoodIn wsX3_tally wsX0_sumOfClass := goodIn_r _ [22, 10, 11, 12, 13, 7, 14, 15, 16, 17, 18, 19, 3, 4, 5, 39, 40, 41, 42, 43] (by decide +kernel) (by decide +kernel)
set_option maxRecDepth 20000 in
theorem gX3_tally_X0_sumOfClass_n141 : GoodIn wsX3_tally (wsX0_sumOfClass) := ggX3_tally_X0_sumOfClass
set_option maxRecDepth 20000 in
theorem ggX3_tally_X0_lostOfClass : GoodIn wsX3_tally wsX0_lostOfClass := goodIn_r _ [25, 10, 15, 16, 17, 7, 18, 19, 3, 4, 5, 39, 40, 41, 42, 43] (by decide +kernel) (by decide +kernel)
set_option maxRecDepth 20000 in
theorem gX3_tally_X0_lostOfClass_n144 : GoodIn wsX3_tally (wsX0_lostOfClass) := ggX3_tally_X0_lostOfClass
set_option maxRecDepth 20000 in
theorem ggX3_tally_X3_partLost : GoodIn wsX3_tally wsX3_partLost := goodIn_r _ [29, 1, 20, 7, 21, 22, 10, 11, 12, 13, 14, 15, 16, 17, 18, 19, 3, 4, 5, 30, 31, 32, 33, 34, 35, 36, 37, 38, 39, 40, 41, 42, 43] (by decide +kernel) (by decide +kernel)
set_option maxRecDepth 20000 in
theorem gX3_tally_X3_partLost : GoodIn wsX3_tally (wsV RX3 147 RX3 yX3_partLost wsX3_partLost) := goodIn_app (goodIn_of _ (by decide +kernel)) ggX3_tally_X3_partLost
theorem dX3_tally_0 : decode cX3_tally 0 = .ok (.iload_n 1, 1) := by decide +kernel
theorem dX3_tally_1 : decode cX3_tally 1 = .ok (.iconst 3, 1) := by decide +kernel
theorem dX3_tally_2 : decode cX3_tally 2 = .ok (.invokestatic 39, 3) := by decide +kernel
theorem dX3_tally_5 : decode cX3_tally 5 = .ok (.ifCond .ne 5, 3) := by decide +kernel
theorem dX3_tally_8 : decode cX3_tally 8 = .ok (.iconst (-1), 1) := by decide +kernel
theorem dX3_tally_9 : decode cX3_tally 9 = .ok (.ireturn, 1) := by decide +kernel
theorem dX3_tally_10 : decode cX3_tally 10 = .ok (.iload_n 2, 1) := by decide +kernel
theorem dX3_tally_11 : decode cX3_tally 11 = .ok (.tableswitch 92 0 5 #[37, 46, 56, 67, 76, 76], 37) := by decide +kernel
theorem dX3_tally_48 : decode cX3_tally 48 = .ok (.aload_n 0, 1) := by decide +kernel
theorem dX3_tally_49 : decode cX3_tally 49 = .ok (.getfield 20, 3) := by decide +kernel
theorem dX3_tally_52 : decode cX3_tally 52 = .ok (.iload_n 1, 1) := by decide +kernel
theorem dX3_tally_53 : decode cX3_tally 53 = .ok (.invokevirtual 138, 3) := by decide +kernel
theorem dX3_tally_56 : decode cX3_tally 56 = .ok (.ireturn, 1) := by decide +kernel
theorem dX3_tally_57 : decode cX3_tally 57 = .ok (.aload_n 0, 1) := by decide +kernel
theorem dX3_tally_58 : decode cX3_tally 58 = .ok (.getfield 20, 3) := by decide +kernel
theorem dX3_tally_61 : decode cX3_tally 61 = .ok (.iload_n 1, 1) := by decide +kernel
theorem dX3_tally_62 : decode cX3_tally 62 = .ok (.iconst 4, 1) := by decide +kernel
theorem dX3_tally_63 : decode cX3_tally 63 = .ok (.invokevirtual 141, 3) := by decide +kernel
theorem dX3_tally_66 : decode cX3_tally 66 = .ok (.ireturn, 1) := by decide +kernel
theorem dX3_tally_67 : decode cX3_tally 67 = .ok (.aload_n 0, 1) := by decide +kernel
theorem dX3_tally_68 : decode cX3_tally 68 = .ok (.getfield 20, 3) := by decide +kernel
theorem dX3_tally_71 : decode cX3_tally 71 = .ok (.iload_n 1, 1) := by decide +kernel
theorem dX3_tally_72 : decode cX3_tally 72 = .ok (.bipush 9, 2) := by decide +kernel
theorem dX3_tally_74 : decode cX3_tally 74 = .ok (.invokevirtual 141, 3) := by decide +kernel
theorem dX3_tally_77 : decode cX3_tally 77 = .ok (.ireturn, 1) := by decide +kernel
theorem dX3_tally_78 : decode cX3_tally 78 = .ok (.aload_n 0, 1) := by decide +kernel
theorem dX3_tally_79 : decode cX3_tally 79 = .ok (.getfield 20, 3) := by decide +kernel
theorem dX3_tally_82 : decode cX3_tally 82 = .ok (.iload_n 1, 1) := by decide +kernel
theorem dX3_tally_83 : decode cX3_tally 83 = .ok (.invokevirtual 144, 3) := by decide +kernel
theorem dX3_tally_86 : decode cX3_tally 86 = .ok (.ireturn, 1) := by decide +kernel
theorem dX3_tally_87 : decode cX3_tally 87 = .ok (.aload_n 0, 1) := by decide +kernel
theorem dX3_tally_88 : decode cX3_tally 88 = .ok (.iload_n 1, 1) := by decide +kernel
theorem dX3_tally_89 : decode cX3_tally 89 = .ok (.iload_n 2, 1) := by decide +kernel
theorem dX3_tally_90 : decode cX3_tally 90 = .ok (.iconst 4, 1) := by decide +kernel
theorem dX3_tally_91 : decode cX3_tally 91 = .ok (.if_icmp .ne 7, 3) := by decide +kernel
theorem dX3_tally_94 : decode cX3_tally 94 = .ok (.iconst 1, 1) := by decide +kernel
theorem dX3_tally_95 : decode cX3_tally 95 = .ok (.goto 4, 3) := by decide +kernel
theorem dX3_tally_98 : decode cX3_tally 98 = .ok (.iconst 0, 1) := by decide +kernel
theorem dX3_tally_99 : decode cX3_tally 99 = .ok (.invokevirtual 147, 3) := by decide +kernel
theorem dX3_tally_102 : decode cX3_tally 102 = .ok (.ireturn, 1) := by decide +kernel
theorem dX3_tally_103 : decode cX3_tally 103 = .ok (.bipush (-2), 2) := by decide +kernel
theorem dX3_tally_105 : decode cX3_tally 105 = .ok (.ireturn, 1) := by decide +kernel
set_option maxRecDepth 20000 in
theorem ggX3_count_X3_isWithin : GoodIn wsX3_count wsX3_isWithin := goodIn_r _ [6] (by decide +kernel) (by decide +kernel)
set_option maxRecDepth 20000 in
theorem gX3_count_X3_isWithin : GoodIn wsX3_count (va_wsS RX3 53 yX3_isWithin wsX3_isWithin) := goodIn_app (goodIn_of _ (by decide +kernel)) ggX3_count_X3_isWithin
set_option maxRecDepth 20000 in
theorem ggX3_count_X0_burstsOfFate : GoodIn wsX3_count wsX0_burstsOfFate := goodIn_r _ [10, 11, 12, 13, 8, 14, 15, 16, 17, 18, 19, 20, 21, 5, 22, 40, 41, 42, 43, 44] (by decide +kernel) (by decide +kernel)
set_option maxRecDepth 20000 in
theorem gX3_count_X0_burstsOfFate_n151 : GoodIn wsX3_count (wsX0_burstsOfFate) := ggX3_count_X0_burstsOfFate
set_option maxRecDepth 20000 in
theorem ggX3_count_X0_ruleNow : GoodIn wsX3_count wsX0_ruleNow := goodIn_r _ [25, 26, 21, 5, 22, 40, 41, 42, 43, 44] (by decide +kernel) (by decide +kernel)
set_option maxRecDepth 20000 in
theorem gX3_count_X0_ruleNow_n154 : GoodIn wsX3_count (wsX0_ruleNow) := ggX3_count_X0_ruleNow
set_option maxRecDepth 20000 in
theorem ggX3_count_X0_lengthNow : GoodIn wsX3_count wsX0_lengthNow := goodIn_r _ [29, 30, 21, 5, 22, 40, 41, 42, 43, 44] (by decide +kernel) (by decide +kernel)
set_option maxRecDepth 20000 in
theorem gX3_count_X0_lengthNow_n157 : GoodIn wsX3_count (wsX0_lengthNow) := ggX3_count_X0_lengthNow
set_option maxRecDepth 20000 in
theorem ggX3_count_X0_burstsWith : GoodIn wsX3_count wsX0_burstsWith := goodIn_r _ [33, 15, 11, 12, 13, 8, 14, 16, 17, 18, 19, 20, 21, 5, 22, 40, 41, 42, 43, 44] (by decide +kernel) (by decide +kernel)
set_option maxRecDepth 20000 in
theorem gX3_count_X0_burstsWith_n160 : GoodIn wsX3_count (wsX0_burstsWith) := ggX3_count_X0_burstsWith
theorem dX3_count_0 : decode cX3_count 0 = .ok (.iload_n 1, 1) := by decide +kernel
theorem dX3_count_1 : decode cX3_count 1 = .ok (.iconst 2, 1) := by decide +kernel
theorem dX3_count_2 : decode cX3_count 2 = .ok (.bipush 6, 2) := by decide +kernel
theorem dX3_count_4 : decode cX3_count 4 = .ok (.invokestatic 53, 3) := by decide +kernel
theorem dX3_count_7 : decode cX3_count 7 = .ok (.ifCond .eq 14, 3) := by decide +kernel
theorem dX3_count_10 : decode cX3_count 10 = .ok (.aload_n 0, 1) := by decide +kernel
theorem dX3_count_11 : decode cX3_count 11 = .ok (.getfield 20, 3) := by decide +kernel
theorem dX3_count_14 : decode cX3_count 14 = .ok (.iload_n 1, 1) := by decide +kernel
theorem dX3_count_15 : decode cX3_count 15 = .ok (.iconst 2, 1) := by decide +kernel
theorem dX3_count_16 : decode cX3_count 16 = .ok (.isub, 1) := by decide +kernel
theorem dX3_count_17 : decode cX3_count 17 = .ok (.invokevirtual 151, 3) := by decide +kernel
theorem dX3_count_20 : decode cX3_count 20 = .ok (.ireturn, 1) := by decide +kernel
theorem dX3_count_21 : decode cX3_count 21 = .ok (.iload_n 1, 1) := by decide +kernel
theorem dX3_count_22 : decode cX3_count 22 = .ok (.bipush 10, 2) := by decide +kernel
theorem dX3_count_24 : decode cX3_count 24 = .ok (.bipush 15, 2) := by decide +kernel
theorem dX3_count_26 : decode cX3_count 26 = .ok (.invokestatic 53, 3) := by decide +kernel
theorem dX3_count_29 : decode cX3_count 29 = .ok (.ifCond .eq 15, 3) := by decide +kernel
theorem dX3_count_32 : decode cX3_count 32 = .ok (.aload_n 0, 1) := by decide +kernel
theorem dX3_count_33 : decode cX3_count 33 = .ok (.getfield 20, 3) := by decide +kernel
theorem dX3_count_36 : decode cX3_count 36 = .ok (.iload_n 1, 1) := by decide +kernel
theorem dX3_count_37 : decode cX3_count 37 = .ok (.bipush 10, 2) := by decide +kernel
theorem dX3_count_39 : decode cX3_count 39 = .ok (.isub, 1) := by decide +kernel
theorem dX3_count_40 : decode cX3_count 40 = .ok (.invokevirtual 154, 3) := by decide +kernel
theorem dX3_count_43 : decode cX3_count 43 = .ok (.ireturn, 1) := by decide +kernel
theorem dX3_count_44 : decode cX3_count 44 = .ok (.iload_n 1, 1) := by decide +kernel
theorem dX3_count_45 : decode cX3_count 45 = .ok (.bipush 20, 2) := by decide +kernel
theorem dX3_count_47 : decode cX3_count 47 = .ok (.bipush 22, 2) := by decide +kernel
theorem dX3_count_49 : decode cX3_count 49 = .ok (.invokestatic 53, 3) := by decide +kernel
theorem dX3_count_52 : decode cX3_count 52 = .ok (.ifCond .eq 15, 3) := by decide +kernel
theorem dX3_count_55 : decode cX3_count 55 = .ok (.aload_n 0, 1) := by decide +kernel
theorem dX3_count_56 : decode cX3_count 56 = .ok (.getfield 20, 3) := by decide +kernel
theorem dX3_count_59 : decode cX3_count 59 = .ok (.iload_n 1, 1) := by decide +kernel
theorem dX3_count_60 : decode cX3_count 60 = .ok (.bipush 20, 2) := by decide +kernel
theorem dX3_count_62 : decode cX3_count 62 = .ok (.isub, 1) := by decide +kernel
theorem dX3_count_63 : decode cX3_count 63 = .ok (.invokevirtual 157, 3) := by decide +kernel
theorem dX3_count_66 : decode cX3_count 66 = .ok (.ireturn, 1) := by decide +kernel
theorem dX3_count_67 : decode cX3_count 67 = .ok (.iload_n 1, 1) := by decide +kernel
theorem dX3_count_68 : decode cX3_count 68 = .ok (.tableswitch 97 0 9 #[56, 64, 97, 97, 97, 97, 97, 72, 82, 92], 56) := by decide +kernel
theorem dX3_count_124 : decode cX3_count 124 = .ok (.aload_n 0, 1) := by decide +kernel
theorem dX3_count_125 : decode cX3_count 125 = .ok (.getfield 20, 3) := by decide +kernel
theorem dX3_count_128 : decode cX3_count 128 = .ok (.getfield 67, 3) := by decide +kernel
theorem dX3_count_131 : decode cX3_count 131 = .ok (.ireturn, 1) := by decide +kernel
theorem dX3_count_132 : decode cX3_count 132 = .ok (.aload_n 0, 1) := by decide +kernel
theorem dX3_count_133 : decode cX3_count 133 = .ok (.getfield 20, 3) := by decide +kernel
theorem dX3_count_136 : decode cX3_count 136 = .ok (.getfield 77, 3) := by decide +kernel
theorem dX3_count_139 : decode cX3_count 139 = .ok (.ireturn, 1) := by decide +kernel
theorem dX3_count_140 : decode cX3_count 140 = .ok (.aload_n 0, 1) := by decide +kernel
theorem dX3_count_141 : decode cX3_count 141 = .ok (.getfield 20, 3) := by decide +kernel
theorem dX3_count_144 : decode cX3_count 144 = .ok (.bipush 7, 2) := by decide +kernel
theorem dX3_count_146 : decode cX3_count 146 = .ok (.invokevirtual 160, 3) := by decide +kernel
theorem dX3_count_149 : decode cX3_count 149 = .ok (.ireturn, 1) := by decide +kernel
theorem dX3_count_150 : decode cX3_count 150 = .ok (.aload_n 0, 1) := by decide +kernel
theorem dX3_count_151 : decode cX3_count 151 = .ok (.getfield 20, 3) := by decide +kernel
theorem dX3_count_154 : decode cX3_count 154 = .ok (.bipush 10, 2) := by decide +kernel
theorem dX3_count_156 : decode cX3_count 156 = .ok (.invokevirtual 160, 3) := by decide +kernel
theorem dX3_count_159 : decode cX3_count 159 = .ok (.ireturn, 1) := by decide +kernel
theorem dX3_count_160 : decode cX3_count 160 = .ok (.aload_n 0, 1) := by decide +kernel
theorem dX3_count_161 : decode cX3_count 161 = .ok (.getfield 35, 3) := by decide +kernel
theorem dX3_count_164 : decode cX3_count 164 = .ok (.ireturn, 1) := by decide +kernel
theorem dX3_count_165 : decode cX3_count 165 = .ok (.bipush (-2), 2) := by decide +kernel
theorem dX3_count_167 : decode cX3_count 167 = .ok (.ireturn, 1) := by decide +kernel
set_option maxRecDepth 20000 in
theorem ggX3_image_X3_isBelow : GoodIn wsX3_image wsX3_isBelow := goodIn_r _ [6] (by decide +kernel) (by decide +kernel)
set_option maxRecDepth 20000 in
theorem gX3_image_X3_isBelow : GoodIn wsX3_image (va_wsS RX3 39 yX3_isBelow wsX3_isBelow) := goodIn_app (goodIn_of _ (by decide +kernel)) ggX3_image_X3_isBelow
set_option maxRecDepth 20000 in
theorem ggX3_image_X3_imageOf : GoodIn wsX3_image wsX3_imageOf := goodIn_r _ [10, 11, 12, 26, 27, 28, 29, 30, 31] (by decide +kernel) (by decide +kernel)
set_option maxRecDepth 20000 in
theorem gX3_image_X3_imageOf : GoodIn wsX3_image (wsV RX3 163 RX3 yX3_imageOf wsX3_imageOf) := goodIn_app (goodIn_of _ (by decide +kernel)) ggX3_image_X3_imageOf
set_option maxRecDepth 20000 in
theorem ggX3_image_X0_copyFrom : GoodIn wsX3_image wsX0_copyFrom := goodIn_r _ [16, 17, 18, 19, 20, 21, 22, 23, 24, 25, 32, 33, 34, 35, 36] (by decide +kernel) (by decide +kernel)
set_option maxRecDepth 20000 in
theorem gX3_image_X0_copyFrom_n167 : GoodIn wsX3_image (wsX0_copyFrom) := ggX3_image_X0_copyFrom
theorem dX3_image_0 : decode cX3_image 0 = .ok (.iload_n 1, 1) := by decide +kernel
theorem dX3_image_1 : decode cX3_image 1 = .ok (.iconst 2, 1) := by decide +kernel
theorem dX3_image_2 : decode cX3_image 2 = .ok (.invokestatic 39, 3) := by decide +kernel
theorem dX3_image_5 : decode cX3_image 5 = .ok (.ifCond .ne 6, 3) := by decide +kernel
theorem dX3_image_8 : decode cX3_image 8 = .ok (.bipush (-2), 2) := by decide +kernel
theorem dX3_image_10 : decode cX3_image 10 = .ok (.ireturn, 1) := by decide +kernel
theorem dX3_image_11 : decode cX3_image 11 = .ok (.aload_n 0, 1) := by decide +kernel
theorem dX3_image_12 : decode cX3_image 12 = .ok (.iload_n 1, 1) := by decide +kernel
theorem dX3_image_13 : decode cX3_image 13 = .ok (.invokevirtual 163, 3) := by decide +kernel
theorem dX3_image_16 : decode cX3_image 16 = .ok (.aload_n 0, 1) := by decide +kernel
theorem dX3_image_17 : decode cX3_image 17 = .ok (.getfield 20, 3) := by decide +kernel
theorem dX3_image_20 : decode cX3_image 20 = .ok (.invokevirtual 167, 3) := by decide +kernel
theorem dX3_image_23 : decode cX3_image 23 = .ok (.aload_n 0, 1) := by decide +kernel
theorem dX3_image_24 : decode cX3_image 24 = .ok (.dup, 1) := by decide +kernel
theorem dX3_image_25 : decode cX3_image 25 = .ok (.getfield 35, 3) := by decide +kernel
theorem dX3_image_28 : decode cX3_image 28 = .ok (.iconst 1, 1) := by decide +kernel
theorem dX3_image_29 : decode cX3_image 29 = .ok (.iload_n 1, 1) := by decide +kernel
theorem dX3_image_30 : decode cX3_image 30 = .ok (.ishl, 1) := by decide +kernel
theorem dX3_image_31 : decode cX3_image 31 = .ok (.ior, 1) := by decide +kernel
theorem dX3_image_32 : decode cX3_image 32 = .ok (.putfield 35, 3) := by decide +kernel
theorem dX3_image_35 : decode cX3_image 35 = .ok (.iconst 1, 1) := by decide +kernel
theorem dX3_image_36 : decode cX3_image 36 = .ok (.ireturn, 1) := by decide +kernel
set_option maxRecDepth 20000 in
theorem ggX3_restore_X3_isBelow : GoodIn wsX3_restore wsX3_isBelow := goodIn_r _ [6] (by decide +kernel) (by decide +kernel)
set_option maxRecDepth 20000 in
theorem gX3_restore_X3_isBelow : GoodIn wsX3_restore (va_wsS RX3 39 yX3_isBelow wsX3_isBelow) := goodIn_app (goodIn_of _ (by decide +kernel)) ggX3_restore_X3_isBelow
set_option maxRecDepth 20000 in
theorem ggX3_restore_X3_imageOf : GoodIn wsX3_restore wsX3_imageOf := goodIn_r _ [10, 11, 12, 26, 27, 28, 29, 30, 31] (by decide +kernel) (by decide +kernel)
set_option maxRecDepth 20000 in
theorem gX3_restore_X3_imageOf : GoodIn wsX3_restore (wsV RX3 163 RX3 yX3_imageOf wsX3_imageOf) := goodIn_app (goodIn_of _ (by decide +kernel)) ggX3_restore_X3_imageOf
set_option maxRecDepth 20000 in
theorem ggX3_restore_X0_copyFrom : GoodIn wsX3_restore wsX0_copyFrom := goodIn_r _ [16, 17, 18, 19, 20, 21, 22, 23, 24, 25, 32, 33, 34, 35, 36] (by decide +kernel) (by decide +kernel)
set_option maxRecDepth 20000 in
theorem gX3_restore_X0_copyFrom_n167 : GoodIn wsX3_restore (wsX0_copyFrom) := ggX3_restore_X0_copyFrom
theorem dX3_restore_0 : decode cX3_restore 0 = .ok (.iload_n 1, 1) := by decide +kernel
theorem dX3_restore_1 : decode cX3_restore 1 = .ok (.iconst 2, 1) := by decide +kernel
theorem dX3_restore_2 : decode cX3_restore 2 = .ok (.invokestatic 39, 3) := by decide +kernel
theorem dX3_restore_5 : decode cX3_restore 5 = .ok (.ifCond .ne 6, 3) := by decide +kernel
theorem dX3_restore_8 : decode cX3_restore 8 = .ok (.bipush (-2), 2) := by decide +kernel
theorem dX3_restore_10 : decode cX3_restore 10 = .ok (.ireturn, 1) := by decide +kernel
theorem dX3_restore_11 : decode cX3_restore 11 = .ok (.aload_n 0, 1) := by decide +kernel
theorem dX3_restore_12 : decode cX3_restore 12 = .ok (.getfield 35, 3) := by decide +kernel
theorem dX3_restore_15 : decode cX3_restore 15 = .ok (.iconst 1, 1) := by decide +kernel
theorem dX3_restore_16 : decode cX3_restore 16 = .ok (.iload_n 1, 1) := by decide +kernel
theorem dX3_restore_17 : decode cX3_restore 17 = .ok (.ishl, 1) := by decide +kernel
theorem dX3_restore_18 : decode cX3_restore 18 = .ok (.iand, 1) := by decide +kernel
theorem dX3_restore_19 : decode cX3_restore 19 = .ok (.ifCond .ne 6, 3) := by decide +kernel
theorem dX3_restore_22 : decode cX3_restore 22 = .ok (.bipush (-3), 2) := by decide +kernel
theorem dX3_restore_24 : decode cX3_restore 24 = .ok (.ireturn, 1) := by decide +kernel
theorem dX3_restore_25 : decode cX3_restore 25 = .ok (.aload_n 0, 1) := by decide +kernel
theorem dX3_restore_26 : decode cX3_restore 26 = .ok (.getfield 20, 3) := by decide +kernel
theorem dX3_restore_29 : decode cX3_restore 29 = .ok (.aload_n 0, 1) := by decide +kernel
theorem dX3_restore_30 : decode cX3_restore 30 = .ok (.iload_n 1, 1) := by decide +kernel
theorem dX3_restore_31 : decode cX3_restore 31 = .ok (.invokevirtual 163, 3) := by decide +kernel
theorem dX3_restore_34 : decode cX3_restore 34 = .ok (.invokevirtual 167, 3) := by decide +kernel
theorem dX3_restore_37 : decode cX3_restore 37 = .ok (.iconst 1, 1) := by decide +kernel
theorem dX3_restore_38 : decode cX3_restore 38 = .ok (.ireturn, 1) := by decide +kernel
theorem dX3_imageOf_0 : decode cX3_imageOf 0 = .ok (.iload_n 1, 1) := by decide +kernel
theorem dX3_imageOf_1 : decode cX3_imageOf 1 = .ok (.ifCond .ne 10, 3) := by decide +kernel
theorem dX3_imageOf_4 : decode cX3_imageOf 4 = .ok (.aload_n 0, 1) := by decide +kernel
theorem dX3_imageOf_5 : decode cX3_imageOf 5 = .ok (.getfield 29, 3) := by decide +kernel
theorem dX3_imageOf_8 : decode cX3_imageOf 8 = .ok (.goto 7, 3) := by decide +kernel
theorem dX3_imageOf_11 : decode cX3_imageOf 11 = .ok (.aload_n 0, 1) := by decide +kernel
theorem dX3_imageOf_12 : decode cX3_imageOf 12 = .ok (.getfield 32, 3) := by decide +kernel
theorem dX3_imageOf_15 : decode cX3_imageOf 15 = .ok (.areturn, 1) := by decide +kernel
set_option maxRecDepth 20000 in
theorem ggX3_ofBooking_X2_begin : GoodIn wsX3_ofBooking wsX2_begin := goodIn_r _ [5, 6, 7, 8, 9, 3, 10, 11, 12, 13, 14, 29, 30, 31, 32] (by decide +kernel) (by decide +kernel)
set_option maxRecDepth 20000 in
theorem gX3_ofBooking_X2_begin_n134 : GoodIn wsX3_ofBooking (wsX2_begin) := ggX3_ofBooking_X2_begin
set_option maxRecDepth 20000 in
theorem ggX3_ofBooking_X2_ticks : GoodIn wsX3_ofBooking wsX2_ticks := goodIn_r _ [17, 18, 6, 7, 8, 9, 3, 10, 11, 12, 13, 14, 29, 30, 31, 32] (by decide +kernel) (by decide +kernel)
set_option maxRecDepth 20000 in
theorem gX3_ofBooking_X2_ticks_n171 : GoodIn wsX3_ofBooking (wsX2_ticks) := ggX3_ofBooking_X2_ticks
set_option maxRecDepth 20000 in
theorem ggX3_ofBooking_X2_burstOf : GoodIn wsX3_ofBooking wsX2_burstOf := goodIn_r _ [21, 22, 7, 8, 9, 3, 10, 11, 12, 13, 14, 29, 30, 31, 32] (by decide +kernel) (by decide +kernel)
set_option maxRecDepth 20000 in
theorem gX3_ofBooking_X2_burstOf_n174 : GoodIn wsX3_ofBooking (wsX2_burstOf) := ggX3_ofBooking_X2_burstOf
theorem dX3_ofBooking_0 : decode cX3_ofBooking 0 = .ok (.iload_n 2, 1) := by decide +kernel
theorem dX3_ofBooking_1 : decode cX3_ofBooking 1 = .ok (.tableswitch 54 0 2 #[27, 36, 45], 27) := by decide +kernel
theorem dX3_ofBooking_28 : decode cX3_ofBooking 28 = .ok (.aload_n 0, 1) := by decide +kernel
theorem dX3_ofBooking_29 : decode cX3_ofBooking 29 = .ok (.getfield 25, 3) := by decide +kernel
theorem dX3_ofBooking_32 : decode cX3_ofBooking 32 = .ok (.iload_n 1, 1) := by decide +kernel
theorem dX3_ofBooking_33 : decode cX3_ofBooking 33 = .ok (.invokevirtual 134, 3) := by decide +kernel
theorem dX3_ofBooking_36 : decode cX3_ofBooking 36 = .ok (.ireturn, 1) := by decide +kernel
theorem dX3_ofBooking_37 : decode cX3_ofBooking 37 = .ok (.aload_n 0, 1) := by decide +kernel
theorem dX3_ofBooking_38 : decode cX3_ofBooking 38 = .ok (.getfield 25, 3) := by decide +kernel
theorem dX3_ofBooking_41 : decode cX3_ofBooking 41 = .ok (.iload_n 1, 1) := by decide +kernel
theorem dX3_ofBooking_42 : decode cX3_ofBooking 42 = .ok (.invokevirtual 171, 3) := by decide +kernel
theorem dX3_ofBooking_45 : decode cX3_ofBooking 45 = .ok (.ireturn, 1) := by decide +kernel
theorem dX3_ofBooking_46 : decode cX3_ofBooking 46 = .ok (.aload_n 0, 1) := by decide +kernel
theorem dX3_ofBooking_47 : decode cX3_ofBooking 47 = .ok (.getfield 25, 3) := by decide +kernel
theorem dX3_ofBooking_50 : decode cX3_ofBooking 50 = .ok (.iload_n 1, 1) := by decide +kernel
theorem dX3_ofBooking_51 : decode cX3_ofBooking 51 = .ok (.invokevirtual 174, 3) := by decide +kernel
theorem dX3_ofBooking_54 : decode cX3_ofBooking 54 = .ok (.ireturn, 1) := by decide +kernel
theorem dX3_ofBooking_55 : decode cX3_ofBooking 55 = .ok (.bipush (-2), 2) := by decide +kernel
theorem dX3_ofBooking_57 : decode cX3_ofBooking 57 = .ok (.ireturn, 1) := by decide +kernel
set_option maxRecDepth 20000 in
theorem ggX3_partLost_X0_sumOfClass : GoodIn wsX3_partLost wsX0_sumOfClass := goodIn_r _ [5, 6, 7, 8, 9, 3, 10, 11, 12, 13, 14, 15, 16, 17, 18, 28, 29, 30, 31, 32] (by decide +kernel) (by decide +kernel)
set_option maxRecDepth 20000 in
theorem gX3_partLost_X0_sumOfClass_n141 : GoodIn wsX3_partLost (wsX0_sumOfClass) := ggX3_partLost_X0_sumOfClass
set_option maxRecDepth 20000 in
theorem ggX3_partLost_X3_commonDivisor : GoodIn wsX3_partLost wsX3_commonDivisor := goodIn_r _ [21] (by decide +kernel) (by decide +kernel)
set_option maxRecDepth 20000 in
theorem gX3_partLost_X3_commonDivisor : GoodIn wsX3_partLost (va_wsS RX3 177 yX3_commonDivisor wsX3_commonDivisor) := goodIn_app (goodIn_of _ (by decide +kernel)) ggX3_partLost_X3_commonDivisor
theorem dX3_partLost_0 : decode cX3_partLost 0 = .ok (.aload_n 0, 1) := by decide +kernel
theorem dX3_partLost_1 : decode cX3_partLost 1 = .ok (.getfield 20, 3) := by decide +kernel
theorem dX3_partLost_4 : decode cX3_partLost 4 = .ok (.iload_n 1, 1) := by decide +kernel
theorem dX3_partLost_5 : decode cX3_partLost 5 = .ok (.iconst 4, 1) := by decide +kernel
theorem dX3_partLost_6 : decode cX3_partLost 6 = .ok (.invokevirtual 141, 3) := by decide +kernel
theorem dX3_partLost_9 : decode cX3_partLost 9 = .ok (.istore_n 3, 1) := by decide +kernel
theorem dX3_partLost_10 : decode cX3_partLost 10 = .ok (.iload_n 3, 1) := by decide +kernel
theorem dX3_partLost_11 : decode cX3_partLost 11 = .ok (.aload_n 0, 1) := by decide +kernel
theorem dX3_partLost_12 : decode cX3_partLost 12 = .ok (.getfield 20, 3) := by decide +kernel
theorem dX3_partLost_15 : decode cX3_partLost 15 = .ok (.iload_n 1, 1) := by decide +kernel
theorem dX3_partLost_16 : decode cX3_partLost 16 = .ok (.bipush 9, 2) := by decide +kernel
theorem dX3_partLost_18 : decode cX3_partLost 18 = .ok (.invokevirtual 141, 3) := by decide +kernel
theorem dX3_partLost_21 : decode cX3_partLost 21 = .ok (.isub, 1) := by decide +kernel
theorem dX3_partLost_22 : decode cX3_partLost 22 = .ok (.istore 4, 2) := by decide +kernel
theorem dX3_partLost_24 : decode cX3_partLost 24 = .ok (.iload_n 3, 1) := by decide +kernel
theorem dX3_partLost_25 : decode cX3_partLost 25 = .ok (.iload 4, 2) := by decide +kernel
theorem dX3_partLost_27 : decode cX3_partLost 27 = .ok (.invokestatic 177, 3) := by decide +kernel
theorem dX3_partLost_30 : decode cX3_partLost 30 = .ok (.istore 5, 2) := by decide +kernel
theorem dX3_partLost_32 : decode cX3_partLost 32 = .ok (.iload_n 3, 1) := by decide +kernel
theorem dX3_partLost_33 : decode cX3_partLost 33 = .ok (.ifCond .eq 8, 3) := by decide +kernel
theorem dX3_partLost_36 : decode cX3_partLost 36 = .ok (.iload 5, 2) := by decide +kernel
theorem dX3_partLost_38 : decode cX3_partLost 38 = .ok (.ifCond .ne 6, 3) := by decide +kernel
theorem dX3_partLost_41 : decode cX3_partLost 41 = .ok (.bipush (-6), 2) := by decide +kernel
theorem dX3_partLost_43 : decode cX3_partLost 43 = .ok (.ireturn, 1) := by decide +kernel
theorem dX3_partLost_44 : decode cX3_partLost 44 = .ok (.iload_n 2, 1) := by decide +kernel
theorem dX3_partLost_45 : decode cX3_partLost 45 = .ok (.ifCond .eq 8, 3) := by decide +kernel
theorem dX3_partLost_48 : decode cX3_partLost 48 = .ok (.iload 4, 2) := by decide +kernel
theorem dX3_partLost_50 : decode cX3_partLost 50 = .ok (.goto 4, 3) := by decide +kernel
theorem dX3_partLost_53 : decode cX3_partLost 53 = .ok (.iload_n 3, 1) := by decide +kernel
theorem dX3_partLost_54 : decode cX3_partLost 54 = .ok (.iload 5, 2) := by decide +kernel
theorem dX3_partLost_56 : decode cX3_partLost 56 = .ok (.idiv, 1) := by decide +kernel
theorem dX3_partLost_57 : decode cX3_partLost 57 = .ok (.ireturn, 1) := by decide +kernel
theorem dX3_commonDivisor_0 : decode cX3_commonDivisor 0 = .ok (.iload_n 0, 1) := by decide +kernel
theorem dX3_commonDivisor_1 : decode cX3_commonDivisor 1 = .ok (.istore_n 2, 1) := by decide +kernel
theorem dX3_commonDivisor_2 : decode cX3_commonDivisor 2 = .ok (.iload_n 1, 1) := by decide +kernel
theorem dX3_commonDivisor_3 : decode cX3_commonDivisor 3 = .ok (.istore_n 3, 1) := by decide +kernel
theorem dX3_commonDivisor_4 : decode cX3_commonDivisor 4 = .ok (.iconst 0, 1) := by decide +kernel
theorem dX3_commonDivisor_5 : decode cX3_commonDivisor 5 = .ok (.istore 4, 2) := by decide +kernel
theorem dX3_commonDivisor_7 : decode cX3_commonDivisor 7 = .ok (.iload 4, 2) := by decide +kernel
theorem dX3_commonDivisor_9 : decode cX3_commonDivisor 9 = .ok (.bipush 64, 2) := by decide +kernel
theorem dX3_commonDivisor_11 : decode cX3_commonDivisor 11 = .ok (.if_icmp .ge 23, 3) := by decide +kernel
theorem dX3_commonDivisor_14 : decode cX3_commonDivisor 14 = .ok (.iload_n 3, 1) := by decide +kernel
theorem dX3_commonDivisor_15 : decode cX3_commonDivisor 15 = .ok (.ifCond .eq 19, 3) := by decide +kernel
theorem dX3_commonDivisor_18 : decode cX3_commonDivisor 18 = .ok (.iload_n 2, 1) := by decide +kernel
theorem dX3_commonDivisor_19 : decode cX3_commonDivisor 19 = .ok (.iload_n 3, 1) := by decide +kernel
theorem dX3_commonDivisor_20 : decode cX3_commonDivisor 20 = .ok (.irem, 1) := by decide +kernel
theorem dX3_commonDivisor_21 : decode cX3_commonDivisor 21 = .ok (.istore 5, 2) := by decide +kernel
theorem dX3_commonDivisor_23 : decode cX3_commonDivisor 23 = .ok (.iload_n 3, 1) := by decide +kernel
theorem dX3_commonDivisor_24 : decode cX3_commonDivisor 24 = .ok (.istore_n 2, 1) := by decide +kernel
theorem dX3_commonDivisor_25 : decode cX3_commonDivisor 25 = .ok (.iload 5, 2) := by decide +kernel
theorem dX3_commonDivisor_27 : decode cX3_commonDivisor 27 = .ok (.istore_n 3, 1) := by decide +kernel
theorem dX3_commonDivisor_28 : decode cX3_commonDivisor 28 = .ok (.iinc 4 1, 3) := by decide +kernel
theorem dX3_commonDivisor_31 : decode cX3_commonDivisor 31 = .ok (.goto (-24), 3) := by decide +kernel
theorem dX3_commonDivisor_34 : decode cX3_commonDivisor 34 = .ok (.iload_n 2, 1) := by decide +kernel
theorem dX3_commonDivisor_35 : decode cX3_commonDivisor 35 = .ok (.ireturn, 1) := by decide +kernel
set_option maxRecDepth 20000 in
theorem ggX3_refusalOfBurst_X3_isColour : GoodIn wsX3_refusalOfBurst wsX3_isColour := goodIn_r _ [4, 5, 6, 3, 7] (by decide +kernel) (by decide +kernel)
set_option maxRecDepth 20000 in
theorem gX3_refusalOfBurst_X3_isColour : GoodIn wsX3_refusalOfBurst (va_wsS RX3 105 yX3_isColour wsX3_isColour) := goodIn_app (goodIn_of _ (by decide +kernel)) ggX3_refusalOfBurst_X3_isColour
set_option maxRecDepth 20000 in
theorem ggX3_refusalOfBurst_X3_isBelow : GoodIn wsX3_refusalOfBurst wsX3_isBelow := goodIn_r _ [7] (by decide +kernel) (by decide +kernel)
set_option maxRecDepth 20000 in
theorem gX3_refusalOfBurst_X3_isBelow : GoodIn wsX3_refusalOfBurst (va_wsS RX3 39 yX3_isBelow wsX3_isBelow) := goodIn_app (goodIn_of _ (by decide +kernel)) ggX3_refusalOfBurst_X3_isBelow
set_option maxRecDepth 20000 in
theorem ggX3_refusalOfBurst_X3_isWithin : GoodIn wsX3_refusalOfBurst wsX3_isWithin := goodIn_r _ [10] (by decide +kernel) (by decide +kernel)
set_option maxRecDepth 20000 in
theorem gX3_refusalOfBurst_X3_isWithin : GoodIn wsX3_refusalOfBurst (va_wsS RX3 53 yX3_isWithin wsX3_isWithin) := goodIn_app (goodIn_of _ (by decide +kernel)) ggX3_refusalOfBurst_X3_isWithin
theorem dX3_refusalOfBurst_0 : decode cX3_refusalOfBurst 0 = .ok (.iload_n 0, 1) := by decide +kernel
theorem dX3_refusalOfBurst_1 : decode cX3_refusalOfBurst 1 = .ok (.iload_n 1, 1) := by decide +kernel
theorem dX3_refusalOfBurst_2 : decode cX3_refusalOfBurst 2 = .ok (.invokestatic 105, 3) := by decide +kernel
theorem dX3_refusalOfBurst_5 : decode cX3_refusalOfBurst 5 = .ok (.ifCond .eq 11, 3) := by decide +kernel
theorem dX3_refusalOfBurst_8 : decode cX3_refusalOfBurst 8 = .ok (.iload_n 2, 1) := by decide +kernel
theorem dX3_refusalOfBurst_9 : decode cX3_refusalOfBurst 9 = .ok (.iconst 3, 1) := by decide +kernel
theorem dX3_refusalOfBurst_10 : decode cX3_refusalOfBurst 10 = .ok (.invokestatic 39, 3) := by decide +kernel
theorem dX3_refusalOfBurst_13 : decode cX3_refusalOfBurst 13 = .ok (.ifCond .ne 5, 3) := by decide +kernel
theorem dX3_refusalOfBurst_16 : decode cX3_refusalOfBurst 16 = .ok (.iconst (-1), 1) := by decide +kernel
theorem dX3_refusalOfBurst_17 : decode cX3_refusalOfBurst 17 = .ok (.ireturn, 1) := by decide +kernel
theorem dX3_refusalOfBurst_18 : decode cX3_refusalOfBurst 18 = .ok (.iload_n 3, 1) := by decide +kernel
theorem dX3_refusalOfBurst_19 : decode cX3_refusalOfBurst 19 = .ok (.iconst 1, 1) := by decide +kernel
theorem dX3_refusalOfBurst_20 : decode cX3_refusalOfBurst 20 = .ok (.iconst 5, 1) := by decide +kernel
theorem dX3_refusalOfBurst_21 : decode cX3_refusalOfBurst 21 = .ok (.invokestatic 53, 3) := by decide +kernel
theorem dX3_refusalOfBurst_24 : decode cX3_refusalOfBurst 24 = .ok (.ifCond .eq 14, 3) := by decide +kernel
theorem dX3_refusalOfBurst_27 : decode cX3_refusalOfBurst 27 = .ok (.iload 4, 2) := by decide +kernel
theorem dX3_refusalOfBurst_29 : decode cX3_refusalOfBurst 29 = .ok (.iconst 1, 1) := by decide +kernel
theorem dX3_refusalOfBurst_30 : decode cX3_refusalOfBurst 30 = .ok (.bipush 60, 2) := by decide +kernel
theorem dX3_refusalOfBurst_32 : decode cX3_refusalOfBurst 32 = .ok (.invokestatic 53, 3) := by decide +kernel
theorem dX3_refusalOfBurst_35 : decode cX3_refusalOfBurst 35 = .ok (.ifCond .ne 6, 3) := by decide +kernel
theorem dX3_refusalOfBurst_38 : decode cX3_refusalOfBurst 38 = .ok (.bipush (-2), 2) := by decide +kernel
theorem dX3_refusalOfBurst_40 : decode cX3_refusalOfBurst 40 = .ok (.ireturn, 1) := by decide +kernel
theorem dX3_refusalOfBurst_41 : decode cX3_refusalOfBurst 41 = .ok (.iconst 0, 1) := by decide +kernel
theorem dX3_refusalOfBurst_42 : decode cX3_refusalOfBurst 42 = .ok (.ireturn, 1) := by decide +kernel
set_option maxRecDepth 20000 in
theorem ggX3_isColour_X3_isBelow : GoodIn wsX3_isColour wsX3_isBelow := goodIn_r _ [4] (by decide +kernel) (by decide +kernel)
set_option maxRecDepth 20000 in
theorem gX3_isColour_X3_isBelow : GoodIn wsX3_isColour (va_wsS RX3 39 yX3_isBelow wsX3_isBelow) := goodIn_app (goodIn_of _ (by decide +kernel)) ggX3_isColour_X3_isBelow
theorem dX3_isColour_0 : decode cX3_isColour 0 = .ok (.iload_n 0, 1) := by decide +kernel
theorem dX3_isColour_1 : decode cX3_isColour 1 = .ok (.iconst 2, 1) := by decide +kernel
theorem dX3_isColour_2 : decode cX3_isColour 2 = .ok (.invokestatic 39, 3) := by decide +kernel
theorem dX3_isColour_5 : decode cX3_isColour 5 = .ok (.ifCond .eq 16, 3) := by decide +kernel
theorem dX3_isColour_8 : decode cX3_isColour 8 = .ok (.iload_n 1, 1) := by decide +kernel
theorem dX3_isColour_9 : decode cX3_isColour 9 = .ok (.bipush 6, 2) := by decide +kernel
theorem dX3_isColour_11 : decode cX3_isColour 11 = .ok (.invokestatic 39, 3) := by decide +kernel
theorem dX3_isColour_14 : decode cX3_isColour 14 = .ok (.ifCond .eq 7, 3) := by decide +kernel
theorem dX3_isColour_17 : decode cX3_isColour 17 = .ok (.iconst 1, 1) := by decide +kernel
theorem dX3_isColour_18 : decode cX3_isColour 18 = .ok (.goto 4, 3) := by decide +kernel
theorem dX3_isColour_21 : decode cX3_isColour 21 = .ok (.iconst 0, 1) := by decide +kernel
theorem dX3_isColour_22 : decode cX3_isColour 22 = .ok (.ireturn, 1) := by decide +kernel
set_option maxRecDepth 20000 in
theorem ggX3_isSpan_X3_isWithin : GoodIn wsX3_isSpan wsX3_isWithin := goodIn_r _ [4] (by decide +kernel) (by decide +kernel)
set_option maxRecDepth 20000 in
theorem gX3_isSpan_X3_isWithin : GoodIn wsX3_isSpan (va_wsS RX3 53 yX3_isWithin wsX3_isWithin) := goodIn_app (goodIn_of _ (by decide +kernel)) ggX3_isSpan_X3_isWithin
theorem dX3_isSpan_0 : decode cX3_isSpan 0 = .ok (.iload_n 0, 1) := by decide +kernel
theorem dX3_isSpan_1 : decode cX3_isSpan 1 = .ok (.iconst 0, 1) := by decide +kernel
theorem dX3_isSpan_2 : decode cX3_isSpan 2 = .ok (.sipush 20000, 3) := by decide +kernel
theorem dX3_isSpan_5 : decode cX3_isSpan 5 = .ok (.invokestatic 53, 3) := by decide +kernel
theorem dX3_isSpan_8 : decode cX3_isSpan 8 = .ok (.ifCond .eq 18, 3) := by decide +kernel
theorem dX3_isSpan_11 : decode cX3_isSpan 11 = .ok (.iload_n 1, 1) := by decide +kernel
theorem dX3_isSpan_12 : decode cX3_isSpan 12 = .ok (.iconst 1, 1) := by decide +kernel
theorem dX3_isSpan_13 : decode cX3_isSpan 13 = .ok (.sipush 2000, 3) := by decide +kernel
theorem dX3_isSpan_16 : decode cX3_isSpan 16 = .ok (.invokestatic 53, 3) := by decide +kernel
theorem dX3_isSpan_19 : decode cX3_isSpan 19 = .ok (.ifCond .eq 7, 3) := by decide +kernel
theorem dX3_isSpan_22 : decode cX3_isSpan 22 = .ok (.iconst 1, 1) := by decide +kernel
theorem dX3_isSpan_23 : decode cX3_isSpan 23 = .ok (.goto 4, 3) := by decide +kernel
theorem dX3_isSpan_26 : decode cX3_isSpan 26 = .ok (.iconst 0, 1) := by decide +kernel
theorem dX3_isSpan_27 : decode cX3_isSpan 27 = .ok (.ireturn, 1) := by decide +kernel
theorem dX3_isBelow_0 : decode cX3_isBelow 0 = .ok (.iload_n 0, 1) := by decide +kernel
theorem dX3_isBelow_1 : decode cX3_isBelow 1 = .ok (.ifCond .lt 12, 3) := by decide +kernel
theorem dX3_isBelow_4 : decode cX3_isBelow 4 = .ok (.iload_n 0, 1) := by decide +kernel
theorem dX3_isBelow_5 : decode cX3_isBelow 5 = .ok (.iload_n 1, 1) := by decide +kernel
theorem dX3_isBelow_6 : decode cX3_isBelow 6 = .ok (.if_icmp .ge 7, 3) := by decide +kernel
theorem dX3_isBelow_9 : decode cX3_isBelow 9 = .ok (.iconst 1, 1) := by decide +kernel
theorem dX3_isBelow_10 : decode cX3_isBelow 10 = .ok (.goto 4, 3) := by decide +kernel
theorem dX3_isBelow_13 : decode cX3_isBelow 13 = .ok (.iconst 0, 1) := by decide +kernel
theorem dX3_isBelow_14 : decode cX3_isBelow 14 = .ok (.ireturn, 1) := by decide +kernel
theorem dX3_isWithin_0 : decode cX3_isWithin 0 = .ok (.iload_n 0, 1) := by decide +kernel
theorem dX3_isWithin_1 : decode cX3_isWithin 1 = .ok (.iload_n 1, 1) := by decide +kernel
theorem dX3_isWithin_2 : decode cX3_isWithin 2 = .ok (.if_icmp .lt 12, 3) := by decide +kernel
theorem dX3_isWithin_5 : decode cX3_isWithin 5 = .ok (.iload_n 0, 1) := by decide +kernel
theorem dX3_isWithin_6 : decode cX3_isWithin 6 = .ok (.iload_n 2, 1) := by decide +kernel
theorem dX3_isWithin_7 : decode cX3_isWithin 7 = .ok (.if_icmp .gt 7, 3) := by decide +kernel
theorem dX3_isWithin_10 : decode cX3_isWithin 10 = .ok (.iconst 1, 1) := by decide +kernel
theorem dX3_isWithin_11 : decode cX3_isWithin 11 = .ok (.goto 4, 3) := by decide +kernel
theorem dX3_isWithin_14 : decode cX3_isWithin 14 = .ok (.iconst 0, 1) := by decide +kernel
theorem dX3_isWithin_15 : decode cX3_isWithin 15 = .ok (.ireturn, 1) := by decide +kernel
