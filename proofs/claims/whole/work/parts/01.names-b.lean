theorem dX0_init_0 : decode cX0_init 0 = .ok (.aload_n 0, 1) := by decide +kernel
theorem dX0_init_1 : decode cX0_init 1 = .ok (.invokespecial 3, 3) := by decide +kernel
theorem dX0_init_4 : decode cX0_init 4 = .ok (.aload_n 0, 1) := by decide +kernel
theorem dX0_init_5 : decode cX0_init 5 = .ok (.iconst 0, 1) := by decide +kernel
theorem dX0_init_6 : decode cX0_init 6 = .ok (.putfield 9, 3) := by decide +kernel
theorem dX0_init_9 : decode cX0_init 9 = .ok (.aload_n 0, 1) := by decide +kernel
theorem dX0_init_10 : decode cX0_init 10 = .ok (.iconst 0, 1) := by decide +kernel
theorem dX0_init_11 : decode cX0_init 11 = .ok (.putfield 15, 3) := by decide +kernel
theorem dX0_init_14 : decode cX0_init 14 = .ok (.aload_n 0, 1) := by decide +kernel
theorem dX0_init_15 : decode cX0_init 15 = .ok (.getstatic 18, 3) := by decide +kernel
theorem dX0_init_18 : decode cX0_init 18 = .ok (.invokevirtual 22, 3) := by decide +kernel
theorem dX0_init_21 : decode cX0_init 21 = .ok (.checkcast 23, 3) := by decide +kernel
theorem dX0_init_24 : decode cX0_init 24 = .ok (.putfield 27, 3) := by decide +kernel
theorem dX0_init_27 : decode cX0_init 27 = .ok (.aload_n 0, 1) := by decide +kernel
theorem dX0_init_28 : decode cX0_init 28 = .ok (.iconst 3, 1) := by decide +kernel
theorem dX0_init_29 : decode cX0_init 29 = .ok (.newarray .int, 2) := by decide +kernel
theorem dX0_init_31 : decode cX0_init 31 = .ok (.putfield 30, 3) := by decide +kernel
theorem dX0_init_34 : decode cX0_init 34 = .ok (.aload_n 0, 1) := by decide +kernel
theorem dX0_init_35 : decode cX0_init 35 = .ok (.sipush 528, 3) := by decide +kernel
theorem dX0_init_38 : decode cX0_init 38 = .ok (.newarray .int, 2) := by decide +kernel
theorem dX0_init_40 : decode cX0_init 40 = .ok (.putfield 33, 3) := by decide +kernel
theorem dX0_init_43 : decode cX0_init 43 = .ok (.return_, 1) := by decide +kernel
theorem dX0_copyFrom_0 : decode cX0_copyFrom 0 = .ok (.aload_n 0, 1) := by decide +kernel
theorem dX0_copyFrom_1 : decode cX0_copyFrom 1 = .ok (.aload_n 1, 1) := by decide +kernel
theorem dX0_copyFrom_2 : decode cX0_copyFrom 2 = .ok (.getfield 9, 3) := by decide +kernel
theorem dX0_copyFrom_5 : decode cX0_copyFrom 5 = .ok (.putfield 9, 3) := by decide +kernel
theorem dX0_copyFrom_8 : decode cX0_copyFrom 8 = .ok (.aload_n 0, 1) := by decide +kernel
theorem dX0_copyFrom_9 : decode cX0_copyFrom 9 = .ok (.aload_n 1, 1) := by decide +kernel
theorem dX0_copyFrom_10 : decode cX0_copyFrom 10 = .ok (.getfield 15, 3) := by decide +kernel
theorem dX0_copyFrom_13 : decode cX0_copyFrom 13 = .ok (.putfield 15, 3) := by decide +kernel
theorem dX0_copyFrom_16 : decode cX0_copyFrom 16 = .ok (.aload_n 1, 1) := by decide +kernel
theorem dX0_copyFrom_17 : decode cX0_copyFrom 17 = .ok (.getfield 27, 3) := by decide +kernel
theorem dX0_copyFrom_20 : decode cX0_copyFrom 20 = .ok (.iconst 0, 1) := by decide +kernel
theorem dX0_copyFrom_21 : decode cX0_copyFrom 21 = .ok (.aload_n 0, 1) := by decide +kernel
theorem dX0_copyFrom_22 : decode cX0_copyFrom 22 = .ok (.getfield 27, 3) := by decide +kernel
theorem dX0_copyFrom_25 : decode cX0_copyFrom 25 = .ok (.iconst 0, 1) := by decide +kernel
theorem dX0_copyFrom_26 : decode cX0_copyFrom 26 = .ok (.bipush 6, 2) := by decide +kernel
theorem dX0_copyFrom_28 : decode cX0_copyFrom 28 = .ok (.invokestatic 36, 3) := by decide +kernel
theorem dX0_copyFrom_31 : decode cX0_copyFrom 31 = .ok (.aload_n 1, 1) := by decide +kernel
theorem dX0_copyFrom_32 : decode cX0_copyFrom 32 = .ok (.getfield 30, 3) := by decide +kernel
theorem dX0_copyFrom_35 : decode cX0_copyFrom 35 = .ok (.iconst 0, 1) := by decide +kernel
theorem dX0_copyFrom_36 : decode cX0_copyFrom 36 = .ok (.aload_n 0, 1) := by decide +kernel
theorem dX0_copyFrom_37 : decode cX0_copyFrom 37 = .ok (.getfield 30, 3) := by decide +kernel
theorem dX0_copyFrom_40 : decode cX0_copyFrom 40 = .ok (.iconst 0, 1) := by decide +kernel
theorem dX0_copyFrom_41 : decode cX0_copyFrom 41 = .ok (.iconst 3, 1) := by decide +kernel
theorem dX0_copyFrom_42 : decode cX0_copyFrom 42 = .ok (.invokestatic 36, 3) := by decide +kernel
theorem dX0_copyFrom_45 : decode cX0_copyFrom 45 = .ok (.aload_n 1, 1) := by decide +kernel
theorem dX0_copyFrom_46 : decode cX0_copyFrom 46 = .ok (.getfield 33, 3) := by decide +kernel
theorem dX0_copyFrom_49 : decode cX0_copyFrom 49 = .ok (.iconst 0, 1) := by decide +kernel
theorem dX0_copyFrom_50 : decode cX0_copyFrom 50 = .ok (.aload_n 0, 1) := by decide +kernel
theorem dX0_copyFrom_51 : decode cX0_copyFrom 51 = .ok (.getfield 33, 3) := by decide +kernel
theorem dX0_copyFrom_54 : decode cX0_copyFrom 54 = .ok (.iconst 0, 1) := by decide +kernel
theorem dX0_copyFrom_55 : decode cX0_copyFrom 55 = .ok (.sipush 528, 3) := by decide +kernel
theorem dX0_copyFrom_58 : decode cX0_copyFrom 58 = .ok (.invokestatic 36, 3) := by decide +kernel
theorem dX0_copyFrom_61 : decode cX0_copyFrom 61 = .ok (.return_, 1) := by decide +kernel
set_option maxRecDepth 20000 in
theorem ggX0_ruleNow_X3_isBelow : GoodIn wsX0_ruleNow wsX3_isBelow := goodIn_r _ [4] (by decide +kernel) (by decide +kernel)
set_option maxRecDepth 20000 in
theorem gX0_ruleNow_X3_isBelow_n42 : GoodIn wsX0_ruleNow (wsX3_isBelow) := ggX0_ruleNow_X3_isBelow
theorem dX0_ruleNow_0 : decode cX0_ruleNow 0 = .ok (.iload_n 1, 1) := by decide +kernel
theorem dX0_ruleNow_1 : decode cX0_ruleNow 1 = .ok (.bipush 6, 2) := by decide +kernel
theorem dX0_ruleNow_3 : decode cX0_ruleNow 3 = .ok (.invokestatic 42, 3) := by decide +kernel
theorem dX0_ruleNow_6 : decode cX0_ruleNow 6 = .ok (.ifCond .eq 12, 3) := by decide +kernel
theorem dX0_ruleNow_9 : decode cX0_ruleNow 9 = .ok (.aload_n 0, 1) := by decide +kernel
theorem dX0_ruleNow_10 : decode cX0_ruleNow 10 = .ok (.getfield 27, 3) := by decide +kernel
theorem dX0_ruleNow_13 : decode cX0_ruleNow 13 = .ok (.iload_n 1, 1) := by decide +kernel
theorem dX0_ruleNow_14 : decode cX0_ruleNow 14 = .ok (.iaload, 1) := by decide +kernel
theorem dX0_ruleNow_15 : decode cX0_ruleNow 15 = .ok (.goto 5, 3) := by decide +kernel
theorem dX0_ruleNow_18 : decode cX0_ruleNow 18 = .ok (.bipush (-6), 2) := by decide +kernel
theorem dX0_ruleNow_20 : decode cX0_ruleNow 20 = .ok (.ireturn, 1) := by decide +kernel
set_option maxRecDepth 20000 in
theorem ggX0_lengthNow_X3_isBelow : GoodIn wsX0_lengthNow wsX3_isBelow := goodIn_r _ [4] (by decide +kernel) (by decide +kernel)
set_option maxRecDepth 20000 in
theorem gX0_lengthNow_X3_isBelow_n42 : GoodIn wsX0_lengthNow (wsX3_isBelow) := ggX0_lengthNow_X3_isBelow
theorem dX0_lengthNow_0 : decode cX0_lengthNow 0 = .ok (.iload_n 1, 1) := by decide +kernel
theorem dX0_lengthNow_1 : decode cX0_lengthNow 1 = .ok (.iconst 3, 1) := by decide +kernel
theorem dX0_lengthNow_2 : decode cX0_lengthNow 2 = .ok (.invokestatic 42, 3) := by decide +kernel
theorem dX0_lengthNow_5 : decode cX0_lengthNow 5 = .ok (.ifCond .eq 12, 3) := by decide +kernel
theorem dX0_lengthNow_8 : decode cX0_lengthNow 8 = .ok (.aload_n 0, 1) := by decide +kernel
theorem dX0_lengthNow_9 : decode cX0_lengthNow 9 = .ok (.getfield 30, 3) := by decide +kernel
theorem dX0_lengthNow_12 : decode cX0_lengthNow 12 = .ok (.iload_n 1, 1) := by decide +kernel
theorem dX0_lengthNow_13 : decode cX0_lengthNow 13 = .ok (.iaload, 1) := by decide +kernel
theorem dX0_lengthNow_14 : decode cX0_lengthNow 14 = .ok (.goto 5, 3) := by decide +kernel
theorem dX0_lengthNow_17 : decode cX0_lengthNow 17 = .ok (.bipush (-6), 2) := by decide +kernel
theorem dX0_lengthNow_19 : decode cX0_lengthNow 19 = .ok (.ireturn, 1) := by decide +kernel
set_option maxRecDepth 20000 in
theorem ggX0_comingTick_X0_ruleNow : GoodIn wsX0_comingTick wsX0_ruleNow := goodIn_r _ [6, 7, 8, 9, 10, 11, 12, 13, 14, 15] (by decide +kernel) (by decide +kernel)
set_option maxRecDepth 20000 in
theorem gX0_comingTick_X0_ruleNow : GoodIn wsX0_comingTick (wsV RX0 46 RX0 yX0_ruleNow wsX0_ruleNow) := goodIn_app (goodIn_of _ (by decide +kernel)) ggX0_comingTick_X0_ruleNow
theorem dX0_comingTick_0 : decode cX0_comingTick 0 = .ok (.aload_n 0, 1) := by decide +kernel
theorem dX0_comingTick_1 : decode cX0_comingTick 1 = .ok (.getfield 9, 3) := by decide +kernel
theorem dX0_comingTick_4 : decode cX0_comingTick 4 = .ok (.aload_n 0, 1) := by decide +kernel
theorem dX0_comingTick_5 : decode cX0_comingTick 5 = .ok (.iconst 1, 1) := by decide +kernel
theorem dX0_comingTick_6 : decode cX0_comingTick 6 = .ok (.invokevirtual 46, 3) := by decide +kernel
theorem dX0_comingTick_9 : decode cX0_comingTick 9 = .ok (.iload_n 2, 1) := by decide +kernel
theorem dX0_comingTick_10 : decode cX0_comingTick 10 = .ok (.imul, 1) := by decide +kernel
theorem dX0_comingTick_11 : decode cX0_comingTick 11 = .ok (.iadd, 1) := by decide +kernel
theorem dX0_comingTick_12 : decode cX0_comingTick 12 = .ok (.aload_n 0, 1) := by decide +kernel
theorem dX0_comingTick_13 : decode cX0_comingTick 13 = .ok (.iconst 2, 1) := by decide +kernel
theorem dX0_comingTick_14 : decode cX0_comingTick 14 = .ok (.invokevirtual 46, 3) := by decide +kernel
theorem dX0_comingTick_17 : decode cX0_comingTick 17 = .ok (.iload_n 1, 1) := by decide +kernel
theorem dX0_comingTick_18 : decode cX0_comingTick 18 = .ok (.imul, 1) := by decide +kernel
theorem dX0_comingTick_19 : decode cX0_comingTick 19 = .ok (.iadd, 1) := by decide +kernel
theorem dX0_comingTick_20 : decode cX0_comingTick 20 = .ok (.ireturn, 1) := by decide +kernel
set_option maxRecDepth 20000 in
theorem ggX0_fact_X3_isBelow : GoodIn wsX0_fact wsX3_isBelow := goodIn_r _ [4] (by decide +kernel) (by decide +kernel)
set_option maxRecDepth 20000 in
theorem gX0_fact_X3_isBelow_n42 : GoodIn wsX0_fact (wsX3_isBelow) := ggX0_fact_X3_isBelow
theorem dX0_fact_0 : decode cX0_fact 0 = .ok (.iload_n 1, 1) := by decide +kernel
theorem dX0_fact_1 : decode cX0_fact 1 = .ok (.bipush 11, 2) := by decide +kernel
theorem dX0_fact_3 : decode cX0_fact 3 = .ok (.imul, 1) := by decide +kernel
theorem dX0_fact_4 : decode cX0_fact 4 = .ok (.iload_n 2, 1) := by decide +kernel
theorem dX0_fact_5 : decode cX0_fact 5 = .ok (.iadd, 1) := by decide +kernel
theorem dX0_fact_6 : decode cX0_fact 6 = .ok (.istore_n 3, 1) := by decide +kernel
theorem dX0_fact_7 : decode cX0_fact 7 = .ok (.iload_n 3, 1) := by decide +kernel
theorem dX0_fact_8 : decode cX0_fact 8 = .ok (.sipush 528, 3) := by decide +kernel
theorem dX0_fact_11 : decode cX0_fact 11 = .ok (.invokestatic 42, 3) := by decide +kernel
theorem dX0_fact_14 : decode cX0_fact 14 = .ok (.ifCond .eq 12, 3) := by decide +kernel
theorem dX0_fact_17 : decode cX0_fact 17 = .ok (.aload_n 0, 1) := by decide +kernel
theorem dX0_fact_18 : decode cX0_fact 18 = .ok (.getfield 33, 3) := by decide +kernel
theorem dX0_fact_21 : decode cX0_fact 21 = .ok (.iload_n 3, 1) := by decide +kernel
theorem dX0_fact_22 : decode cX0_fact 22 = .ok (.iaload, 1) := by decide +kernel
theorem dX0_fact_23 : decode cX0_fact 23 = .ok (.goto 5, 3) := by decide +kernel
theorem dX0_fact_26 : decode cX0_fact 26 = .ok (.bipush (-6), 2) := by decide +kernel
theorem dX0_fact_28 : decode cX0_fact 28 = .ok (.ireturn, 1) := by decide +kernel
set_option maxRecDepth 20000 in
theorem ggX0_setFact_X3_isBelow : GoodIn wsX0_setFact wsX3_isBelow := goodIn_r _ [4] (by decide +kernel) (by decide +kernel)
set_option maxRecDepth 20000 in
theorem gX0_setFact_X3_isBelow_n42 : GoodIn wsX0_setFact (wsX3_isBelow) := ggX0_setFact_X3_isBelow
theorem dX0_setFact_0 : decode cX0_setFact 0 = .ok (.iload_n 1, 1) := by decide +kernel
theorem dX0_setFact_1 : decode cX0_setFact 1 = .ok (.bipush 11, 2) := by decide +kernel
theorem dX0_setFact_3 : decode cX0_setFact 3 = .ok (.imul, 1) := by decide +kernel
theorem dX0_setFact_4 : decode cX0_setFact 4 = .ok (.iload_n 2, 1) := by decide +kernel
theorem dX0_setFact_5 : decode cX0_setFact 5 = .ok (.iadd, 1) := by decide +kernel
theorem dX0_setFact_6 : decode cX0_setFact 6 = .ok (.istore 4, 2) := by decide +kernel
theorem dX0_setFact_8 : decode cX0_setFact 8 = .ok (.iload 4, 2) := by decide +kernel
theorem dX0_setFact_10 : decode cX0_setFact 10 = .ok (.sipush 528, 3) := by decide +kernel
theorem dX0_setFact_13 : decode cX0_setFact 13 = .ok (.invokestatic 42, 3) := by decide +kernel
theorem dX0_setFact_16 : decode cX0_setFact 16 = .ok (.ifCond .eq 11, 3) := by decide +kernel
theorem dX0_setFact_19 : decode cX0_setFact 19 = .ok (.aload_n 0, 1) := by decide +kernel
theorem dX0_setFact_20 : decode cX0_setFact 20 = .ok (.getfield 33, 3) := by decide +kernel
theorem dX0_setFact_23 : decode cX0_setFact 23 = .ok (.iload 4, 2) := by decide +kernel
theorem dX0_setFact_25 : decode cX0_setFact 25 = .ok (.iload_n 3, 1) := by decide +kernel
theorem dX0_setFact_26 : decode cX0_setFact 26 = .ok (.iastore, 1) := by decide +kernel
theorem dX0_setFact_27 : decode cX0_setFact 27 = .ok (.return_, 1) := by decide +kernel
set_option maxRecDepth 20000 in
theorem ggX0_takeBack_X0_setFact : GoodIn wsX0_takeBack wsX0_setFact := goodIn_r _ [5, 6, 7, 8, 9, 10, 11, 12, 13, 14] (by decide +kernel) (by decide +kernel)
set_option maxRecDepth 20000 in
theorem gX0_takeBack_X0_setFact : GoodIn wsX0_takeBack (wsV RX0 50 RX0 yX0_setFact wsX0_setFact) := goodIn_app (goodIn_of _ (by decide +kernel)) ggX0_takeBack_X0_setFact
theorem dX0_takeBack_0 : decode cX0_takeBack 0 = .ok (.aload_n 0, 1) := by decide +kernel
theorem dX0_takeBack_1 : decode cX0_takeBack 1 = .ok (.iload_n 1, 1) := by decide +kernel
theorem dX0_takeBack_2 : decode cX0_takeBack 2 = .ok (.bipush 6, 2) := by decide +kernel
theorem dX0_takeBack_4 : decode cX0_takeBack 4 = .ok (.iconst 4, 1) := by decide +kernel
theorem dX0_takeBack_5 : decode cX0_takeBack 5 = .ok (.invokevirtual 50, 3) := by decide +kernel
theorem dX0_takeBack_8 : decode cX0_takeBack 8 = .ok (.aload_n 0, 1) := by decide +kernel
theorem dX0_takeBack_9 : decode cX0_takeBack 9 = .ok (.iload_n 1, 1) := by decide +kernel
theorem dX0_takeBack_10 : decode cX0_takeBack 10 = .ok (.bipush 7, 2) := by decide +kernel
theorem dX0_takeBack_12 : decode cX0_takeBack 12 = .ok (.bipush (-6), 2) := by decide +kernel
theorem dX0_takeBack_14 : decode cX0_takeBack 14 = .ok (.invokevirtual 50, 3) := by decide +kernel
theorem dX0_takeBack_17 : decode cX0_takeBack 17 = .ok (.aload_n 0, 1) := by decide +kernel
theorem dX0_takeBack_18 : decode cX0_takeBack 18 = .ok (.iload_n 1, 1) := by decide +kernel
theorem dX0_takeBack_19 : decode cX0_takeBack 19 = .ok (.bipush 8, 2) := by decide +kernel
theorem dX0_takeBack_21 : decode cX0_takeBack 21 = .ok (.bipush (-6), 2) := by decide +kernel
theorem dX0_takeBack_23 : decode cX0_takeBack 23 = .ok (.invokevirtual 50, 3) := by decide +kernel
theorem dX0_takeBack_26 : decode cX0_takeBack 26 = .ok (.aload_n 0, 1) := by decide +kernel
theorem dX0_takeBack_27 : decode cX0_takeBack 27 = .ok (.iload_n 1, 1) := by decide +kernel
theorem dX0_takeBack_28 : decode cX0_takeBack 28 = .ok (.bipush 9, 2) := by decide +kernel
theorem dX0_takeBack_30 : decode cX0_takeBack 30 = .ok (.iconst 0, 1) := by decide +kernel
theorem dX0_takeBack_31 : decode cX0_takeBack 31 = .ok (.invokevirtual 50, 3) := by decide +kernel
theorem dX0_takeBack_34 : decode cX0_takeBack 34 = .ok (.aload_n 0, 1) := by decide +kernel
theorem dX0_takeBack_35 : decode cX0_takeBack 35 = .ok (.iload_n 1, 1) := by decide +kernel
theorem dX0_takeBack_36 : decode cX0_takeBack 36 = .ok (.bipush 10, 2) := by decide +kernel
theorem dX0_takeBack_38 : decode cX0_takeBack 38 = .ok (.bipush (-6), 2) := by decide +kernel
theorem dX0_takeBack_40 : decode cX0_takeBack 40 = .ok (.invokevirtual 50, 3) := by decide +kernel
theorem dX0_takeBack_43 : decode cX0_takeBack 43 = .ok (.return_, 1) := by decide +kernel
set_option maxRecDepth 20000 in
theorem ggX0_showColour_X2_clear : GoodIn wsX0_showColour wsX2_clear := goodIn_r _ [5, 6, 27, 28, 29, 30] (by decide +kernel) (by decide +kernel)
set_option maxRecDepth 20000 in
theorem gX0_showColour_X2_clear_n54 : GoodIn wsX0_showColour (wsX2_clear) := ggX0_showColour_X2_clear
set_option maxRecDepth 20000 in
theorem ggX0_showColour_X0_fact : GoodIn wsX0_showColour wsX0_fact := goodIn_r _ [11, 12, 13, 14, 15, 22, 23, 24, 25, 26] (by decide +kernel) (by decide +kernel)
set_option maxRecDepth 20000 in
theorem gX0_showColour_X0_fact : GoodIn wsX0_showColour (wsV RX0 59 RX0 yX0_fact wsX0_fact) := goodIn_app (goodIn_of _ (by decide +kernel)) ggX0_showColour_X0_fact
set_option maxRecDepth 20000 in
theorem ggX0_showColour_X2_add : GoodIn wsX0_showColour wsX2_add := goodIn_r _ [18, 6, 19, 20, 21, 13, 14, 15, 27, 28, 29, 30] (by decide +kernel) (by decide +kernel)
set_option maxRecDepth 20000 in
theorem gX0_showColour_X2_add_n63 : GoodIn wsX0_showColour (wsX2_add) := ggX0_showColour_X2_add
theorem dX0_showColour_0 : decode cX0_showColour 0 = .ok (.aload_n 3, 1) := by decide +kernel
theorem dX0_showColour_1 : decode cX0_showColour 1 = .ok (.invokevirtual 54, 3) := by decide +kernel
theorem dX0_showColour_4 : decode cX0_showColour 4 = .ok (.iconst 0, 1) := by decide +kernel
theorem dX0_showColour_5 : decode cX0_showColour 5 = .ok (.istore 4, 2) := by decide +kernel
theorem dX0_showColour_7 : decode cX0_showColour 7 = .ok (.iload 4, 2) := by decide +kernel
theorem dX0_showColour_9 : decode cX0_showColour 9 = .ok (.aload_n 0, 1) := by decide +kernel
theorem dX0_showColour_10 : decode cX0_showColour 10 = .ok (.getfield 15, 3) := by decide +kernel
theorem dX0_showColour_13 : decode cX0_showColour 13 = .ok (.if_icmp .ge 54, 3) := by decide +kernel
theorem dX0_showColour_16 : decode cX0_showColour 16 = .ok (.aload_n 0, 1) := by decide +kernel
theorem dX0_showColour_17 : decode cX0_showColour 17 = .ok (.iload 4, 2) := by decide +kernel
theorem dX0_showColour_19 : decode cX0_showColour 19 = .ok (.bipush 7, 2) := by decide +kernel
theorem dX0_showColour_21 : decode cX0_showColour 21 = .ok (.invokevirtual 59, 3) := by decide +kernel
theorem dX0_showColour_24 : decode cX0_showColour 24 = .ok (.iload_n 2, 1) := by decide +kernel
theorem dX0_showColour_25 : decode cX0_showColour 25 = .ok (.if_icmp .ne 36, 3) := by decide +kernel
theorem dX0_showColour_28 : decode cX0_showColour 28 = .ok (.aload_n 0, 1) := by decide +kernel
theorem dX0_showColour_29 : decode cX0_showColour 29 = .ok (.iload 4, 2) := by decide +kernel
theorem dX0_showColour_31 : decode cX0_showColour 31 = .ok (.iconst 0, 1) := by decide +kernel
theorem dX0_showColour_32 : decode cX0_showColour 32 = .ok (.invokevirtual 59, 3) := by decide +kernel
theorem dX0_showColour_35 : decode cX0_showColour 35 = .ok (.iload_n 1, 1) := by decide +kernel
theorem dX0_showColour_36 : decode cX0_showColour 36 = .ok (.if_icmp .ne 25, 3) := by decide +kernel
theorem dX0_showColour_39 : decode cX0_showColour 39 = .ok (.aload_n 3, 1) := by decide +kernel
theorem dX0_showColour_40 : decode cX0_showColour 40 = .ok (.iload 4, 2) := by decide +kernel
theorem dX0_showColour_42 : decode cX0_showColour 42 = .ok (.aload_n 0, 1) := by decide +kernel
theorem dX0_showColour_43 : decode cX0_showColour 43 = .ok (.iload 4, 2) := by decide +kernel
theorem dX0_showColour_45 : decode cX0_showColour 45 = .ok (.bipush 8, 2) := by decide +kernel
theorem dX0_showColour_47 : decode cX0_showColour 47 = .ok (.invokevirtual 59, 3) := by decide +kernel
theorem dX0_showColour_50 : decode cX0_showColour 50 = .ok (.aload_n 0, 1) := by decide +kernel
theorem dX0_showColour_51 : decode cX0_showColour 51 = .ok (.iload 4, 2) := by decide +kernel
theorem dX0_showColour_53 : decode cX0_showColour 53 = .ok (.bipush 9, 2) := by decide +kernel
theorem dX0_showColour_55 : decode cX0_showColour 55 = .ok (.invokevirtual 59, 3) := by decide +kernel
theorem dX0_showColour_58 : decode cX0_showColour 58 = .ok (.invokevirtual 63, 3) := by decide +kernel
theorem dX0_showColour_61 : decode cX0_showColour 61 = .ok (.iinc 4 1, 3) := by decide +kernel
theorem dX0_showColour_64 : decode cX0_showColour 64 = .ok (.goto (-57), 3) := by decide +kernel
theorem dX0_showColour_67 : decode cX0_showColour 67 = .ok (.return_, 1) := by decide +kernel
set_option maxRecDepth 20000 in
theorem ggX0_showLine_X2_clear : GoodIn wsX0_showLine wsX2_clear := goodIn_r _ [5, 6, 27, 28, 29, 30] (by decide +kernel) (by decide +kernel)
set_option maxRecDepth 20000 in
theorem gX0_showLine_X2_clear_n54 : GoodIn wsX0_showLine (wsX2_clear) := ggX0_showLine_X2_clear
set_option maxRecDepth 20000 in
theorem ggX0_showLine_X0_fact : GoodIn wsX0_showLine wsX0_fact := goodIn_r _ [11, 12, 13, 14, 15, 22, 23, 24, 25, 26] (by decide +kernel) (by decide +kernel)
set_option maxRecDepth 20000 in
theorem gX0_showLine_X0_fact : GoodIn wsX0_showLine (wsV RX0 59 RX0 yX0_fact wsX0_fact) := goodIn_app (goodIn_of _ (by decide +kernel)) ggX0_showLine_X0_fact
set_option maxRecDepth 20000 in
theorem ggX0_showLine_X2_add : GoodIn wsX0_showLine wsX2_add := goodIn_r _ [18, 6, 19, 20, 21, 13, 14, 15, 27, 28, 29, 30] (by decide +kernel) (by decide +kernel)
set_option maxRecDepth 20000 in
theorem gX0_showLine_X2_add_n63 : GoodIn wsX0_showLine (wsX2_add) := ggX0_showLine_X2_add
theorem dX0_showLine_0 : decode cX0_showLine 0 = .ok (.aload_n 2, 1) := by decide +kernel
theorem dX0_showLine_1 : decode cX0_showLine 1 = .ok (.invokevirtual 54, 3) := by decide +kernel
theorem dX0_showLine_4 : decode cX0_showLine 4 = .ok (.iconst 0, 1) := by decide +kernel
theorem dX0_showLine_5 : decode cX0_showLine 5 = .ok (.istore_n 3, 1) := by decide +kernel
theorem dX0_showLine_6 : decode cX0_showLine 6 = .ok (.iload_n 3, 1) := by decide +kernel
theorem dX0_showLine_7 : decode cX0_showLine 7 = .ok (.aload_n 0, 1) := by decide +kernel
theorem dX0_showLine_8 : decode cX0_showLine 8 = .ok (.getfield 15, 3) := by decide +kernel
theorem dX0_showLine_11 : decode cX0_showLine 11 = .ok (.if_icmp .ge 37, 3) := by decide +kernel
theorem dX0_showLine_14 : decode cX0_showLine 14 = .ok (.aload_n 0, 1) := by decide +kernel
theorem dX0_showLine_15 : decode cX0_showLine 15 = .ok (.iload_n 3, 1) := by decide +kernel
theorem dX0_showLine_16 : decode cX0_showLine 16 = .ok (.bipush 10, 2) := by decide +kernel
theorem dX0_showLine_18 : decode cX0_showLine 18 = .ok (.invokevirtual 59, 3) := by decide +kernel
theorem dX0_showLine_21 : decode cX0_showLine 21 = .ok (.iload_n 1, 1) := by decide +kernel
theorem dX0_showLine_22 : decode cX0_showLine 22 = .ok (.if_icmp .ne 20, 3) := by decide +kernel
theorem dX0_showLine_25 : decode cX0_showLine 25 = .ok (.aload_n 2, 1) := by decide +kernel
theorem dX0_showLine_26 : decode cX0_showLine 26 = .ok (.iload_n 3, 1) := by decide +kernel
theorem dX0_showLine_27 : decode cX0_showLine 27 = .ok (.aload_n 0, 1) := by decide +kernel
theorem dX0_showLine_28 : decode cX0_showLine 28 = .ok (.iload_n 3, 1) := by decide +kernel
theorem dX0_showLine_29 : decode cX0_showLine 29 = .ok (.iconst 5, 1) := by decide +kernel
theorem dX0_showLine_30 : decode cX0_showLine 30 = .ok (.invokevirtual 59, 3) := by decide +kernel
theorem dX0_showLine_33 : decode cX0_showLine 33 = .ok (.aload_n 0, 1) := by decide +kernel
theorem dX0_showLine_34 : decode cX0_showLine 34 = .ok (.iload_n 3, 1) := by decide +kernel
theorem dX0_showLine_35 : decode cX0_showLine 35 = .ok (.iconst 4, 1) := by decide +kernel
theorem dX0_showLine_36 : decode cX0_showLine 36 = .ok (.invokevirtual 59, 3) := by decide +kernel
theorem dX0_showLine_39 : decode cX0_showLine 39 = .ok (.invokevirtual 63, 3) := by decide +kernel
theorem dX0_showLine_42 : decode cX0_showLine 42 = .ok (.iinc 3 1, 3) := by decide +kernel
theorem dX0_showLine_45 : decode cX0_showLine 45 = .ok (.goto (-39), 3) := by decide +kernel
theorem dX0_showLine_48 : decode cX0_showLine 48 = .ok (.return_, 1) := by decide +kernel
set_option maxRecDepth 20000 in
theorem ggX0_isTallied_X0_fact : GoodIn wsX0_isTallied wsX0_fact := goodIn_r _ [5, 6, 7, 8, 9, 10, 11, 12, 13, 14] (by decide +kernel) (by decide +kernel)
set_option maxRecDepth 20000 in
theorem gX0_isTallied_X0_fact : GoodIn wsX0_isTallied (wsV RX0 59 RX0 yX0_fact wsX0_fact) := goodIn_app (goodIn_of _ (by decide +kernel)) ggX0_isTallied_X0_fact
theorem dX0_isTallied_0 : decode cX0_isTallied 0 = .ok (.aload_n 0, 1) := by decide +kernel
theorem dX0_isTallied_1 : decode cX0_isTallied 1 = .ok (.iload_n 1, 1) := by decide +kernel
theorem dX0_isTallied_2 : decode cX0_isTallied 2 = .ok (.iconst 2, 1) := by decide +kernel
theorem dX0_isTallied_3 : decode cX0_isTallied 3 = .ok (.invokevirtual 59, 3) := by decide +kernel
theorem dX0_isTallied_6 : decode cX0_isTallied 6 = .ok (.iload_n 2, 1) := by decide +kernel
theorem dX0_isTallied_7 : decode cX0_isTallied 7 = .ok (.if_icmp .ne 18, 3) := by decide +kernel
theorem dX0_isTallied_10 : decode cX0_isTallied 10 = .ok (.aload_n 0, 1) := by decide +kernel
theorem dX0_isTallied_11 : decode cX0_isTallied 11 = .ok (.iload_n 1, 1) := by decide +kernel
theorem dX0_isTallied_12 : decode cX0_isTallied 12 = .ok (.bipush 6, 2) := by decide +kernel
theorem dX0_isTallied_14 : decode cX0_isTallied 14 = .ok (.invokevirtual 59, 3) := by decide +kernel
theorem dX0_isTallied_17 : decode cX0_isTallied 17 = .ok (.iconst 4, 1) := by decide +kernel
theorem dX0_isTallied_18 : decode cX0_isTallied 18 = .ok (.if_icmp .eq 7, 3) := by decide +kernel
theorem dX0_isTallied_21 : decode cX0_isTallied 21 = .ok (.iconst 1, 1) := by decide +kernel
theorem dX0_isTallied_22 : decode cX0_isTallied 22 = .ok (.goto 4, 3) := by decide +kernel
theorem dX0_isTallied_25 : decode cX0_isTallied 25 = .ok (.iconst 0, 1) := by decide +kernel
theorem dX0_isTallied_26 : decode cX0_isTallied 26 = .ok (.ireturn, 1) := by decide +kernel
set_option maxRecDepth 20000 in
theorem ggX0_burstsOfClass_X0_isTallied : GoodIn wsX0_burstsOfClass wsX0_isTallied := goodIn_r _ [6, 7, 8, 9, 5, 10, 11, 12, 13, 14, 15, 16, 17, 18, 19] (by decide +kernel) (by decide +kernel)
set_option maxRecDepth 20000 in
theorem gX0_burstsOfClass_X0_isTallied : GoodIn wsX0_burstsOfClass (wsV RX0 66 RX0 yX0_isTallied wsX0_isTallied) := goodIn_app (goodIn_of _ (by decide +kernel)) ggX0_burstsOfClass_X0_isTallied
theorem dX0_burstsOfClass_0 : decode cX0_burstsOfClass 0 = .ok (.iconst 0, 1) := by decide +kernel
theorem dX0_burstsOfClass_1 : decode cX0_burstsOfClass 1 = .ok (.istore_n 2, 1) := by decide +kernel
theorem dX0_burstsOfClass_2 : decode cX0_burstsOfClass 2 = .ok (.iconst 0, 1) := by decide +kernel
theorem dX0_burstsOfClass_3 : decode cX0_burstsOfClass 3 = .ok (.istore_n 3, 1) := by decide +kernel
theorem dX0_burstsOfClass_4 : decode cX0_burstsOfClass 4 = .ok (.iload_n 3, 1) := by decide +kernel
theorem dX0_burstsOfClass_5 : decode cX0_burstsOfClass 5 = .ok (.aload_n 0, 1) := by decide +kernel
theorem dX0_burstsOfClass_6 : decode cX0_burstsOfClass 6 = .ok (.getfield 15, 3) := by decide +kernel
theorem dX0_burstsOfClass_9 : decode cX0_burstsOfClass 9 = .ok (.if_icmp .ge 21, 3) := by decide +kernel
theorem dX0_burstsOfClass_12 : decode cX0_burstsOfClass 12 = .ok (.aload_n 0, 1) := by decide +kernel
theorem dX0_burstsOfClass_13 : decode cX0_burstsOfClass 13 = .ok (.iload_n 3, 1) := by decide +kernel
theorem dX0_burstsOfClass_14 : decode cX0_burstsOfClass 14 = .ok (.iload_n 1, 1) := by decide +kernel
theorem dX0_burstsOfClass_15 : decode cX0_burstsOfClass 15 = .ok (.invokevirtual 66, 3) := by decide +kernel
theorem dX0_burstsOfClass_18 : decode cX0_burstsOfClass 18 = .ok (.ifCond .eq 6, 3) := by decide +kernel
theorem dX0_burstsOfClass_21 : decode cX0_burstsOfClass 21 = .ok (.iinc 2 1, 3) := by decide +kernel
theorem dX0_burstsOfClass_24 : decode cX0_burstsOfClass 24 = .ok (.iinc 3 1, 3) := by decide +kernel
theorem dX0_burstsOfClass_27 : decode cX0_burstsOfClass 27 = .ok (.goto (-23), 3) := by decide +kernel
theorem dX0_burstsOfClass_30 : decode cX0_burstsOfClass 30 = .ok (.iload_n 2, 1) := by decide +kernel
theorem dX0_burstsOfClass_31 : decode cX0_burstsOfClass 31 = .ok (.ireturn, 1) := by decide +kernel
set_option maxRecDepth 20000 in
theorem ggX0_sumOfClass_X0_isTallied : GoodIn wsX0_sumOfClass wsX0_isTallied := goodIn_r _ [6, 7, 8, 9, 5, 10, 11, 12, 13, 14, 15, 16, 17, 18, 19] (by decide +kernel) (by decide +kernel)
set_option maxRecDepth 20000 in
theorem gX0_sumOfClass_X0_isTallied : GoodIn wsX0_sumOfClass (wsV RX0 66 RX0 yX0_isTallied wsX0_isTallied) := goodIn_app (goodIn_of _ (by decide +kernel)) ggX0_sumOfClass_X0_isTallied
set_option maxRecDepth 20000 in
theorem ggX0_sumOfClass_X0_fact : GoodIn wsX0_sumOfClass wsX0_fact := goodIn_r _ [10, 11, 12, 13, 14, 15, 16, 17, 18, 19] (by decide +kernel) (by decide +kernel)
set_option maxRecDepth 20000 in
theorem gX0_sumOfClass_X0_fact : GoodIn wsX0_sumOfClass (wsV RX0 59 RX0 yX0_fact wsX0_fact) := goodIn_app (goodIn_of _ (by decide +kernel)) ggX0_sumOfClass_X0_fact
theorem dX0_sumOfClass_0 : decode cX0_sumOfClass 0 = .ok (.iconst 0, 1) := by decide +kernel
theorem dX0_sumOfClass_1 : decode cX0_sumOfClass 1 = .ok (.istore_n 3, 1) := by decide +kernel
theorem dX0_sumOfClass_2 : decode cX0_sumOfClass 2 = .ok (.iconst 0, 1) := by decide +kernel
theorem dX0_sumOfClass_3 : decode cX0_sumOfClass 3 = .ok (.istore 4, 2) := by decide +kernel
theorem dX0_sumOfClass_5 : decode cX0_sumOfClass 5 = .ok (.iload 4, 2) := by decide +kernel
theorem dX0_sumOfClass_7 : decode cX0_sumOfClass 7 = .ok (.aload_n 0, 1) := by decide +kernel
theorem dX0_sumOfClass_8 : decode cX0_sumOfClass 8 = .ok (.getfield 15, 3) := by decide +kernel
theorem dX0_sumOfClass_11 : decode cX0_sumOfClass 11 = .ok (.if_icmp .ge 29, 3) := by decide +kernel
theorem dX0_sumOfClass_14 : decode cX0_sumOfClass 14 = .ok (.aload_n 0, 1) := by decide +kernel
theorem dX0_sumOfClass_15 : decode cX0_sumOfClass 15 = .ok (.iload 4, 2) := by decide +kernel
theorem dX0_sumOfClass_17 : decode cX0_sumOfClass 17 = .ok (.iload_n 1, 1) := by decide +kernel
theorem dX0_sumOfClass_18 : decode cX0_sumOfClass 18 = .ok (.invokevirtual 66, 3) := by decide +kernel
theorem dX0_sumOfClass_21 : decode cX0_sumOfClass 21 = .ok (.ifCond .eq 13, 3) := by decide +kernel
theorem dX0_sumOfClass_24 : decode cX0_sumOfClass 24 = .ok (.iload_n 3, 1) := by decide +kernel
theorem dX0_sumOfClass_25 : decode cX0_sumOfClass 25 = .ok (.aload_n 0, 1) := by decide +kernel
theorem dX0_sumOfClass_26 : decode cX0_sumOfClass 26 = .ok (.iload 4, 2) := by decide +kernel
theorem dX0_sumOfClass_28 : decode cX0_sumOfClass 28 = .ok (.iload_n 2, 1) := by decide +kernel
theorem dX0_sumOfClass_29 : decode cX0_sumOfClass 29 = .ok (.invokevirtual 59, 3) := by decide +kernel
theorem dX0_sumOfClass_32 : decode cX0_sumOfClass 32 = .ok (.iadd, 1) := by decide +kernel
theorem dX0_sumOfClass_33 : decode cX0_sumOfClass 33 = .ok (.istore_n 3, 1) := by decide +kernel
theorem dX0_sumOfClass_34 : decode cX0_sumOfClass 34 = .ok (.iinc 4 1, 3) := by decide +kernel
theorem dX0_sumOfClass_37 : decode cX0_sumOfClass 37 = .ok (.goto (-32), 3) := by decide +kernel
theorem dX0_sumOfClass_40 : decode cX0_sumOfClass 40 = .ok (.iload_n 3, 1) := by decide +kernel
theorem dX0_sumOfClass_41 : decode cX0_sumOfClass 41 = .ok (.ireturn, 1) := by decide +kernel
set_option maxRecDepth 20000 in
theorem ggX0_lostOfClass_X0_fact : GoodIn wsX0_lostOfClass wsX0_fact := goodIn_r _ [6, 7, 8, 9, 10, 11, 12, 13, 14, 15] (by decide +kernel) (by decide +kernel)
set_option maxRecDepth 20000 in
theorem gX0_lostOfClass_X0_fact : GoodIn wsX0_lostOfClass (wsV RX0 59 RX0 yX0_fact wsX0_fact) := goodIn_app (goodIn_of _ (by decide +kernel)) ggX0_lostOfClass_X0_fact
theorem dX0_lostOfClass_0 : decode cX0_lostOfClass 0 = .ok (.iconst 0, 1) := by decide +kernel
theorem dX0_lostOfClass_1 : decode cX0_lostOfClass 1 = .ok (.istore_n 2, 1) := by decide +kernel
theorem dX0_lostOfClass_2 : decode cX0_lostOfClass 2 = .ok (.iconst 0, 1) := by decide +kernel
theorem dX0_lostOfClass_3 : decode cX0_lostOfClass 3 = .ok (.istore_n 3, 1) := by decide +kernel
theorem dX0_lostOfClass_4 : decode cX0_lostOfClass 4 = .ok (.iload_n 3, 1) := by decide +kernel
theorem dX0_lostOfClass_5 : decode cX0_lostOfClass 5 = .ok (.aload_n 0, 1) := by decide +kernel
theorem dX0_lostOfClass_6 : decode cX0_lostOfClass 6 = .ok (.getfield 15, 3) := by decide +kernel
theorem dX0_lostOfClass_9 : decode cX0_lostOfClass 9 = .ok (.if_icmp .ge 33, 3) := by decide +kernel
theorem dX0_lostOfClass_12 : decode cX0_lostOfClass 12 = .ok (.aload_n 0, 1) := by decide +kernel
theorem dX0_lostOfClass_13 : decode cX0_lostOfClass 13 = .ok (.iload_n 3, 1) := by decide +kernel
theorem dX0_lostOfClass_14 : decode cX0_lostOfClass 14 = .ok (.iconst 2, 1) := by decide +kernel
theorem dX0_lostOfClass_15 : decode cX0_lostOfClass 15 = .ok (.invokevirtual 59, 3) := by decide +kernel
theorem dX0_lostOfClass_18 : decode cX0_lostOfClass 18 = .ok (.iload_n 1, 1) := by decide +kernel
theorem dX0_lostOfClass_19 : decode cX0_lostOfClass 19 = .ok (.if_icmp .ne 17, 3) := by decide +kernel
theorem dX0_lostOfClass_22 : decode cX0_lostOfClass 22 = .ok (.aload_n 0, 1) := by decide +kernel
theorem dX0_lostOfClass_23 : decode cX0_lostOfClass 23 = .ok (.iload_n 3, 1) := by decide +kernel
theorem dX0_lostOfClass_24 : decode cX0_lostOfClass 24 = .ok (.bipush 6, 2) := by decide +kernel
theorem dX0_lostOfClass_26 : decode cX0_lostOfClass 26 = .ok (.invokevirtual 59, 3) := by decide +kernel
theorem dX0_lostOfClass_29 : decode cX0_lostOfClass 29 = .ok (.iconst 3, 1) := by decide +kernel
theorem dX0_lostOfClass_30 : decode cX0_lostOfClass 30 = .ok (.if_icmp .ne 6, 3) := by decide +kernel
theorem dX0_lostOfClass_33 : decode cX0_lostOfClass 33 = .ok (.iinc 2 1, 3) := by decide +kernel
theorem dX0_lostOfClass_36 : decode cX0_lostOfClass 36 = .ok (.iinc 3 1, 3) := by decide +kernel
theorem dX0_lostOfClass_39 : decode cX0_lostOfClass 39 = .ok (.goto (-35), 3) := by decide +kernel
theorem dX0_lostOfClass_42 : decode cX0_lostOfClass 42 = .ok (.iload_n 2, 1) := by decide +kernel
theorem dX0_lostOfClass_43 : decode cX0_lostOfClass 43 = .ok (.ireturn, 1) := by decide +kernel
set_option maxRecDepth 20000 in
theorem ggX0_burstsOfFate_X0_burstsWhere : GoodIn wsX0_burstsOfFate wsX0_burstsWhere := goodIn_r _ [5, 6, 7, 8, 9, 4, 10, 11, 12, 13, 14, 15, 16, 17, 18, 19] (by decide +kernel) (by decide +kernel)
set_option maxRecDepth 20000 in
theorem gX0_burstsOfFate_X0_burstsWhere : GoodIn wsX0_burstsOfFate (wsV RX0 69 RX0 yX0_burstsWhere wsX0_burstsWhere) := goodIn_app (goodIn_of _ (by decide +kernel)) ggX0_burstsOfFate_X0_burstsWhere
theorem dX0_burstsOfFate_0 : decode cX0_burstsOfFate 0 = .ok (.aload_n 0, 1) := by decide +kernel
theorem dX0_burstsOfFate_1 : decode cX0_burstsOfFate 1 = .ok (.bipush 6, 2) := by decide +kernel
theorem dX0_burstsOfFate_3 : decode cX0_burstsOfFate 3 = .ok (.iload_n 1, 1) := by decide +kernel
theorem dX0_burstsOfFate_4 : decode cX0_burstsOfFate 4 = .ok (.invokevirtual 69, 3) := by decide +kernel
theorem dX0_burstsOfFate_7 : decode cX0_burstsOfFate 7 = .ok (.ireturn, 1) := by decide +kernel
set_option maxRecDepth 20000 in
theorem ggX0_burstsWith_X0_burstsWhere : GoodIn wsX0_burstsWith wsX0_burstsWhere := goodIn_r _ [6, 1, 7, 8, 9, 5, 10, 11, 12, 13, 14, 15, 16, 17, 18, 19] (by decide +kernel) (by decide +kernel)
set_option maxRecDepth 20000 in
theorem gX0_burstsWith_X0_burstsWhere : GoodIn wsX0_burstsWith (wsV RX0 69 RX0 yX0_burstsWhere wsX0_burstsWhere) := goodIn_app (goodIn_of _ (by decide +kernel)) ggX0_burstsWith_X0_burstsWhere
theorem dX0_burstsWith_0 : decode cX0_burstsWith 0 = .ok (.aload_n 0, 1) := by decide +kernel
theorem dX0_burstsWith_1 : decode cX0_burstsWith 1 = .ok (.getfield 15, 3) := by decide +kernel
theorem dX0_burstsWith_4 : decode cX0_burstsWith 4 = .ok (.aload_n 0, 1) := by decide +kernel
theorem dX0_burstsWith_5 : decode cX0_burstsWith 5 = .ok (.iload_n 1, 1) := by decide +kernel
theorem dX0_burstsWith_6 : decode cX0_burstsWith 6 = .ok (.bipush (-6), 2) := by decide +kernel
theorem dX0_burstsWith_8 : decode cX0_burstsWith 8 = .ok (.invokevirtual 69, 3) := by decide +kernel
theorem dX0_burstsWith_11 : decode cX0_burstsWith 11 = .ok (.isub, 1) := by decide +kernel
theorem dX0_burstsWith_12 : decode cX0_burstsWith 12 = .ok (.ireturn, 1) := by decide +kernel
set_option maxRecDepth 20000 in
theorem ggX0_burstsWhere_X0_fact : GoodIn wsX0_burstsWhere wsX0_fact := goodIn_r _ [6, 7, 8, 9, 10, 11, 12, 13, 14, 15] (by decide +kernel) (by decide +kernel)
set_option maxRecDepth 20000 in
theorem gX0_burstsWhere_X0_fact : GoodIn wsX0_burstsWhere (wsV RX0 59 RX0 yX0_fact wsX0_fact) := goodIn_app (goodIn_of _ (by decide +kernel)) ggX0_burstsWhere_X0_fact
theorem dX0_burstsWhere_0 : decode cX0_burstsWhere 0 = .ok (.iconst 0, 1) := by decide +kernel
theorem dX0_burstsWhere_1 : decode cX0_burstsWhere 1 = .ok (.istore_n 3, 1) := by decide +kernel
theorem dX0_burstsWhere_2 : decode cX0_burstsWhere 2 = .ok (.iconst 0, 1) := by decide +kernel
theorem dX0_burstsWhere_3 : decode cX0_burstsWhere 3 = .ok (.istore 4, 2) := by decide +kernel
theorem dX0_burstsWhere_5 : decode cX0_burstsWhere 5 = .ok (.iload 4, 2) := by decide +kernel
theorem dX0_burstsWhere_7 : decode cX0_burstsWhere 7 = .ok (.aload_n 0, 1) := by decide +kernel
theorem dX0_burstsWhere_8 : decode cX0_burstsWhere 8 = .ok (.getfield 15, 3) := by decide +kernel
theorem dX0_burstsWhere_11 : decode cX0_burstsWhere 11 = .ok (.if_icmp .ge 23, 3) := by decide +kernel
theorem dX0_burstsWhere_14 : decode cX0_burstsWhere 14 = .ok (.aload_n 0, 1) := by decide +kernel
theorem dX0_burstsWhere_15 : decode cX0_burstsWhere 15 = .ok (.iload 4, 2) := by decide +kernel
theorem dX0_burstsWhere_17 : decode cX0_burstsWhere 17 = .ok (.iload_n 1, 1) := by decide +kernel
theorem dX0_burstsWhere_18 : decode cX0_burstsWhere 18 = .ok (.invokevirtual 59, 3) := by decide +kernel
theorem dX0_burstsWhere_21 : decode cX0_burstsWhere 21 = .ok (.iload_n 2, 1) := by decide +kernel
theorem dX0_burstsWhere_22 : decode cX0_burstsWhere 22 = .ok (.if_icmp .ne 6, 3) := by decide +kernel
theorem dX0_burstsWhere_25 : decode cX0_burstsWhere 25 = .ok (.iinc 3 1, 3) := by decide +kernel
theorem dX0_burstsWhere_28 : decode cX0_burstsWhere 28 = .ok (.iinc 4 1, 3) := by decide +kernel
theorem dX0_burstsWhere_31 : decode cX0_burstsWhere 31 = .ok (.goto (-26), 3) := by decide +kernel
theorem dX0_burstsWhere_34 : decode cX0_burstsWhere 34 = .ok (.iload_n 3, 1) := by decide +kernel
theorem dX0_burstsWhere_35 : decode cX0_burstsWhere 35 = .ok (.ireturn, 1) := by decide +kernel
set_option maxRecDepth 20000 in
theorem ggX1_init_X0_init : GoodIn wsX1_init wsX0_init := goodIn_r _ [22, 23, 2, 3, 24, 25, 26, 27, 28, 29, 30, 31, 32, 33, 34, 35, 43, 44, 45, 46, 47] (by decide +kernel) (by decide +kernel)
set_option maxRecDepth 20000 in
theorem gX1_init_X0_init_n11 : GoodIn wsX1_init (wsX0_init) := ggX1_init_X0_init
set_option maxRecDepth 20000 in
theorem ggX1_init_X2_init : GoodIn wsX1_init wsX2_init := goodIn_r _ [37, 38, 2, 3, 39, 33, 40, 41, 42, 59, 60, 61, 62] (by decide +kernel) (by decide +kernel)
set_option maxRecDepth 20000 in
theorem gX1_init_X2_init_n20 : GoodIn wsX1_init (wsX2_init) := ggX1_init_X2_init
theorem dX1_init_0 : decode cX1_init 0 = .ok (.aload_n 0, 1) := by decide +kernel
theorem dX1_init_1 : decode cX1_init 1 = .ok (.invokespecial 3, 3) := by decide +kernel
theorem dX1_init_4 : decode cX1_init 4 = .ok (.aload_n 0, 1) := by decide +kernel
theorem dX1_init_5 : decode cX1_init 5 = .ok (.new 9, 3) := by decide +kernel
theorem dX1_init_8 : decode cX1_init 8 = .ok (.dup, 1) := by decide +kernel
theorem dX1_init_9 : decode cX1_init 9 = .ok (.invokespecial 11, 3) := by decide +kernel
theorem dX1_init_12 : decode cX1_init 12 = .ok (.putfield 12, 3) := by decide +kernel
theorem dX1_init_15 : decode cX1_init 15 = .ok (.aload_n 0, 1) := by decide +kernel
theorem dX1_init_16 : decode cX1_init 16 = .ok (.new 18, 3) := by decide +kernel
theorem dX1_init_19 : decode cX1_init 19 = .ok (.dup, 1) := by decide +kernel
theorem dX1_init_20 : decode cX1_init 20 = .ok (.invokespecial 20, 3) := by decide +kernel
theorem dX1_init_23 : decode cX1_init 23 = .ok (.putfield 21, 3) := by decide +kernel
theorem dX1_init_26 : decode cX1_init 26 = .ok (.aload_n 0, 1) := by decide +kernel
theorem dX1_init_27 : decode cX1_init 27 = .ok (.iconst 0, 1) := by decide +kernel
theorem dX1_init_28 : decode cX1_init 28 = .ok (.putfield 25, 3) := by decide +kernel
theorem dX1_init_31 : decode cX1_init 31 = .ok (.aload_n 0, 1) := by decide +kernel
theorem dX1_init_32 : decode cX1_init 32 = .ok (.iconst 0, 1) := by decide +kernel
theorem dX1_init_33 : decode cX1_init 33 = .ok (.putfield 29, 3) := by decide +kernel
theorem dX1_init_36 : decode cX1_init 36 = .ok (.aload_n 0, 1) := by decide +kernel
theorem dX1_init_37 : decode cX1_init 37 = .ok (.iconst 0, 1) := by decide +kernel
theorem dX1_init_38 : decode cX1_init 38 = .ok (.putfield 32, 3) := by decide +kernel
theorem dX1_init_41 : decode cX1_init 41 = .ok (.aload_n 0, 1) := by decide +kernel
theorem dX1_init_42 : decode cX1_init 42 = .ok (.iconst 0, 1) := by decide +kernel
theorem dX1_init_43 : decode cX1_init 43 = .ok (.putfield 35, 3) := by decide +kernel
theorem dX1_init_46 : decode cX1_init 46 = .ok (.aload_n 0, 1) := by decide +kernel
theorem dX1_init_47 : decode cX1_init 47 = .ok (.iconst 3, 1) := by decide +kernel
theorem dX1_init_48 : decode cX1_init 48 = .ok (.putfield 38, 3) := by decide +kernel
theorem dX1_init_51 : decode cX1_init 51 = .ok (.aload_n 0, 1) := by decide +kernel
theorem dX1_init_52 : decode cX1_init 52 = .ok (.bipush (-6), 2) := by decide +kernel
theorem dX1_init_54 : decode cX1_init 54 = .ok (.putfield 41, 3) := by decide +kernel
theorem dX1_init_57 : decode cX1_init 57 = .ok (.aload_n 0, 1) := by decide +kernel
theorem dX1_init_58 : decode cX1_init 58 = .ok (.bipush (-6), 2) := by decide +kernel
theorem dX1_init_60 : decode cX1_init 60 = .ok (.putfield 44, 3) := by decide +kernel
theorem dX1_init_63 : decode cX1_init 63 = .ok (.aload_n 0, 1) := by decide +kernel
theorem dX1_init_64 : decode cX1_init 64 = .ok (.iconst 0, 1) := by decide +kernel
theorem dX1_init_65 : decode cX1_init 65 = .ok (.putfield 47, 3) := by decide +kernel
theorem dX1_init_68 : decode cX1_init 68 = .ok (.aload_n 0, 1) := by decide +kernel
theorem dX1_init_69 : decode cX1_init 69 = .ok (.bipush (-6), 2) := by decide +kernel
theorem dX1_init_71 : decode cX1_init 71 = .ok (.putfield 50, 3) := by decide +kernel
theorem dX1_init_74 : decode cX1_init 74 = .ok (.return_, 1) := by decide +kernel
set_option maxRecDepth 20000 in
theorem ggX1_place_X1_decide : GoodIn wsX1_place wsX1_decide := goodIn_r _ [11, 5, 12, 13, 14, 15, 107, 108, 109, 110, 111, 112, 113, 114, 115, 116, 117] (by decide +kernel) (by decide +kernel)
set_option maxRecDepth 20000 in
theorem gX1_place_X1_decide : GoodIn wsX1_place (wsV RX1 53 RX1 yX1_decide wsX1_decide) := goodIn_app (goodIn_of _ (by decide +kernel)) ggX1_place_X1_decide
set_option maxRecDepth 20000 in
theorem ggX1_place_X1_send : GoodIn wsX1_place wsX1_send := goodIn_r _ [19, 3, 4, 20, 21, 22, 10, 23, 6, 1, 24, 25, 26, 27, 28, 2, 29, 30, 31, 32, 33, 34, 35, 36, 37, 38, 39, 40, 41, 42, 43, 44, 45, 46, 47, 48, 49, 50, 51, 52, 53, 54, 55, 56, 57, 58, 59, 60, 61, 62, 63, 64, 65, 66, 67, 68, 69, 70, 71, 72, 73, 74, 75, 76, 77, 78, 79, 80, 81, 82, 83, 84, 7, 8, 9, 11, 5, 12, 13, 14, 15, 107, 108, 109, 110, 111, 112, 113, 114, 115, 116, 117, 118, 119, 120, 121, 122, 123, 124, 125, 126] (by decide +kernel) (by decide +kernel)
set_option maxRecDepth 20000 in
theorem gX1_place_X1_send : GoodIn wsX1_place (wsV RX1 57 RX1 yX1_send wsX1_send) := goodIn_app (goodIn_of _ (by decide +kernel)) ggX1_place_X1_send
set_option maxRecDepth 20000 in
theorem ggX1_place_X1_delay : GoodIn wsX1_place wsX1_delay := goodIn_r _ [88, 6, 3, 4, 89, 34, 90, 91, 92, 38, 39, 40, 93, 94, 95, 10, 96, 24, 97, 98, 99, 44, 45, 46, 47, 48, 49, 50, 51, 52, 53, 54, 55, 56, 57, 58, 59, 60, 65, 66, 67, 68, 69, 70, 71, 72, 73, 31, 74, 75, 76, 77, 20, 21, 22, 23, 1, 25, 26, 27, 28, 2, 29, 30, 32, 33, 35, 36, 37, 41, 42, 43, 61, 62, 63, 64, 78, 79, 80, 81, 82, 83, 84, 7, 8, 9, 11, 5, 12, 13, 14, 15, 107, 108, 109, 110, 111, 112, 113, 114, 115, 116, 117, 118, 119, 120, 121, 122, 123, 124, 125, 126] (by decide +kernel) (by decide +kernel)
set_option maxRecDepth 20000 in
theorem gX1_place_X1_delay : GoodIn wsX1_place (wsV RX1 60 RX1 yX1_delay wsX1_delay) := goodIn_app (goodIn_of _ (by decide +kernel)) ggX1_place_X1_delay
set_option maxRecDepth 20000 in
theorem ggX1_place_X0_ruleNow : GoodIn wsX1_place wsX0_ruleNow := goodIn_r _ [36, 37, 38, 39, 40, 118, 119, 120, 121, 122] (by decide +kernel) (by decide +kernel)
set_option maxRecDepth 20000 in
theorem gX1_place_X0_ruleNow_n63 : GoodIn wsX1_place (wsX0_ruleNow) := ggX1_place_X0_ruleNow
set_option maxRecDepth 20000 in
theorem ggX1_place_X1_cut : GoodIn wsX1_place wsX1_cut := goodIn_r _ [103, 3, 4, 6, 1, 24, 25, 26, 27, 10, 28, 2, 29, 30, 31, 32, 33, 34, 35, 36, 37, 38, 39, 40, 41, 42, 43, 44, 45, 46, 47, 48, 49, 50, 51, 52, 53, 54, 55, 56, 57, 58, 59, 60, 61, 62, 63, 64, 104, 105, 106, 68, 69, 70, 71, 72, 73, 74, 75, 76, 77, 81, 82, 83, 84, 7, 8, 9, 11, 5, 12, 13, 14, 15, 107, 108, 109, 110, 111, 112, 113, 114, 115, 116, 117, 118, 119, 120, 121, 122, 123, 124, 125, 126] (by decide +kernel) (by decide +kernel)
set_option maxRecDepth 20000 in
theorem gX1_place_X1_cut : GoodIn wsX1_place (wsV RX1 67 RX1 yX1_cut wsX1_cut) := goodIn_app (goodIn_of _ (by decide +kernel)) ggX1_place_X1_cut
theorem dX1_place_0 : decode cX1_place 0 = .ok (.aload_n 0, 1) := by decide +kernel
theorem dX1_place_1 : decode cX1_place 1 = .ok (.iload_n 1, 1) := by decide +kernel
theorem dX1_place_2 : decode cX1_place 2 = .ok (.putfield 25, 3) := by decide +kernel
theorem dX1_place_5 : decode cX1_place 5 = .ok (.aload_n 0, 1) := by decide +kernel
theorem dX1_place_6 : decode cX1_place 6 = .ok (.iload_n 2, 1) := by decide +kernel
theorem dX1_place_7 : decode cX1_place 7 = .ok (.putfield 29, 3) := by decide +kernel
theorem dX1_place_10 : decode cX1_place 10 = .ok (.aload_n 0, 1) := by decide +kernel
theorem dX1_place_11 : decode cX1_place 11 = .ok (.iload_n 3, 1) := by decide +kernel
theorem dX1_place_12 : decode cX1_place 12 = .ok (.putfield 32, 3) := by decide +kernel
theorem dX1_place_15 : decode cX1_place 15 = .ok (.aload_n 0, 1) := by decide +kernel
theorem dX1_place_16 : decode cX1_place 16 = .ok (.iload 4, 2) := by decide +kernel
theorem dX1_place_18 : decode cX1_place 18 = .ok (.putfield 35, 3) := by decide +kernel
theorem dX1_place_21 : decode cX1_place 21 = .ok (.aload_n 0, 1) := by decide +kernel
theorem dX1_place_22 : decode cX1_place 22 = .ok (.iconst 3, 1) := by decide +kernel
theorem dX1_place_23 : decode cX1_place 23 = .ok (.bipush (-6), 2) := by decide +kernel
theorem dX1_place_25 : decode cX1_place 25 = .ok (.bipush (-6), 2) := by decide +kernel
theorem dX1_place_27 : decode cX1_place 27 = .ok (.iconst 0, 1) := by decide +kernel
theorem dX1_place_28 : decode cX1_place 28 = .ok (.bipush (-6), 2) := by decide +kernel
theorem dX1_place_30 : decode cX1_place 30 = .ok (.invokevirtual 53, 3) := by decide +kernel
theorem dX1_place_33 : decode cX1_place 33 = .ok (.aload_n 0, 1) := by decide +kernel
theorem dX1_place_34 : decode cX1_place 34 = .ok (.invokevirtual 57, 3) := by decide +kernel
theorem dX1_place_37 : decode cX1_place 37 = .ok (.aload_n 0, 1) := by decide +kernel
theorem dX1_place_38 : decode cX1_place 38 = .ok (.getfield 38, 3) := by decide +kernel
theorem dX1_place_41 : decode cX1_place 41 = .ok (.iconst 3, 1) := by decide +kernel
theorem dX1_place_42 : decode cX1_place 42 = .ok (.if_icmp .ne 7, 3) := by decide +kernel
theorem dX1_place_45 : decode cX1_place 45 = .ok (.aload_n 0, 1) := by decide +kernel
theorem dX1_place_46 : decode cX1_place 46 = .ok (.invokevirtual 60, 3) := by decide +kernel
theorem dX1_place_49 : decode cX1_place 49 = .ok (.aload_n 0, 1) := by decide +kernel
theorem dX1_place_50 : decode cX1_place 50 = .ok (.getfield 38, 3) := by decide +kernel
theorem dX1_place_53 : decode cX1_place 53 = .ok (.iconst 3, 1) := by decide +kernel
theorem dX1_place_54 : decode cX1_place 54 = .ok (.if_icmp .ne 19, 3) := by decide +kernel
theorem dX1_place_57 : decode cX1_place 57 = .ok (.aload_n 0, 1) := by decide +kernel
theorem dX1_place_58 : decode cX1_place 58 = .ok (.getfield 12, 3) := by decide +kernel
theorem dX1_place_61 : decode cX1_place 61 = .ok (.iconst 4, 1) := by decide +kernel
theorem dX1_place_62 : decode cX1_place 62 = .ok (.invokevirtual 63, 3) := by decide +kernel
theorem dX1_place_65 : decode cX1_place 65 = .ok (.iconst 1, 1) := by decide +kernel
theorem dX1_place_66 : decode cX1_place 66 = .ok (.if_icmp .ne 7, 3) := by decide +kernel
theorem dX1_place_69 : decode cX1_place 69 = .ok (.aload_n 0, 1) := by decide +kernel
theorem dX1_place_70 : decode cX1_place 70 = .ok (.invokevirtual 67, 3) := by decide +kernel
theorem dX1_place_73 : decode cX1_place 73 = .ok (.return_, 1) := by decide +kernel
set_option maxRecDepth 20000 in
theorem ggX1_writeTo_X0_setFact : GoodIn wsX1_writeTo wsX0_setFact := goodIn_r _ [14, 15, 16, 17, 18, 30, 31, 32, 33, 34] (by decide +kernel) (by decide +kernel)
set_option maxRecDepth 20000 in
theorem gX1_writeTo_X0_setFact_n70 : GoodIn wsX1_writeTo (wsX0_setFact) := ggX1_writeTo_X0_setFact
theorem dX1_writeTo_0 : decode cX1_writeTo 0 = .ok (.aload_n 0, 1) := by decide +kernel
theorem dX1_writeTo_1 : decode cX1_writeTo 1 = .ok (.getfield 12, 3) := by decide +kernel
theorem dX1_writeTo_4 : decode cX1_writeTo 4 = .ok (.iload_n 1, 1) := by decide +kernel
theorem dX1_writeTo_5 : decode cX1_writeTo 5 = .ok (.iconst 0, 1) := by decide +kernel
theorem dX1_writeTo_6 : decode cX1_writeTo 6 = .ok (.aload_n 0, 1) := by decide +kernel
theorem dX1_writeTo_7 : decode cX1_writeTo 7 = .ok (.getfield 25, 3) := by decide +kernel
theorem dX1_writeTo_10 : decode cX1_writeTo 10 = .ok (.invokevirtual 70, 3) := by decide +kernel
theorem dX1_writeTo_13 : decode cX1_writeTo 13 = .ok (.aload_n 0, 1) := by decide +kernel
theorem dX1_writeTo_14 : decode cX1_writeTo 14 = .ok (.getfield 12, 3) := by decide +kernel
theorem dX1_writeTo_17 : decode cX1_writeTo 17 = .ok (.iload_n 1, 1) := by decide +kernel
theorem dX1_writeTo_18 : decode cX1_writeTo 18 = .ok (.iconst 1, 1) := by decide +kernel
theorem dX1_writeTo_19 : decode cX1_writeTo 19 = .ok (.aload_n 0, 1) := by decide +kernel
theorem dX1_writeTo_20 : decode cX1_writeTo 20 = .ok (.getfield 29, 3) := by decide +kernel
theorem dX1_writeTo_23 : decode cX1_writeTo 23 = .ok (.invokevirtual 70, 3) := by decide +kernel
theorem dX1_writeTo_26 : decode cX1_writeTo 26 = .ok (.aload_n 0, 1) := by decide +kernel
theorem dX1_writeTo_27 : decode cX1_writeTo 27 = .ok (.getfield 12, 3) := by decide +kernel
theorem dX1_writeTo_30 : decode cX1_writeTo 30 = .ok (.iload_n 1, 1) := by decide +kernel
theorem dX1_writeTo_31 : decode cX1_writeTo 31 = .ok (.iconst 5, 1) := by decide +kernel
theorem dX1_writeTo_32 : decode cX1_writeTo 32 = .ok (.aload_n 0, 1) := by decide +kernel
theorem dX1_writeTo_33 : decode cX1_writeTo 33 = .ok (.getfield 32, 3) := by decide +kernel
theorem dX1_writeTo_36 : decode cX1_writeTo 36 = .ok (.invokevirtual 70, 3) := by decide +kernel
theorem dX1_writeTo_39 : decode cX1_writeTo 39 = .ok (.aload_n 0, 1) := by decide +kernel
theorem dX1_writeTo_40 : decode cX1_writeTo 40 = .ok (.getfield 12, 3) := by decide +kernel
theorem dX1_writeTo_43 : decode cX1_writeTo 43 = .ok (.iload_n 1, 1) := by decide +kernel
theorem dX1_writeTo_44 : decode cX1_writeTo 44 = .ok (.iconst 4, 1) := by decide +kernel
theorem dX1_writeTo_45 : decode cX1_writeTo 45 = .ok (.aload_n 0, 1) := by decide +kernel
theorem dX1_writeTo_46 : decode cX1_writeTo 46 = .ok (.getfield 35, 3) := by decide +kernel
theorem dX1_writeTo_49 : decode cX1_writeTo 49 = .ok (.invokevirtual 70, 3) := by decide +kernel
theorem dX1_writeTo_52 : decode cX1_writeTo 52 = .ok (.aload_n 0, 1) := by decide +kernel
theorem dX1_writeTo_53 : decode cX1_writeTo 53 = .ok (.getfield 12, 3) := by decide +kernel
theorem dX1_writeTo_56 : decode cX1_writeTo 56 = .ok (.iload_n 1, 1) := by decide +kernel
theorem dX1_writeTo_57 : decode cX1_writeTo 57 = .ok (.bipush 6, 2) := by decide +kernel
theorem dX1_writeTo_59 : decode cX1_writeTo 59 = .ok (.aload_n 0, 1) := by decide +kernel
theorem dX1_writeTo_60 : decode cX1_writeTo 60 = .ok (.getfield 38, 3) := by decide +kernel
theorem dX1_writeTo_63 : decode cX1_writeTo 63 = .ok (.invokevirtual 70, 3) := by decide +kernel
theorem dX1_writeTo_66 : decode cX1_writeTo 66 = .ok (.aload_n 0, 1) := by decide +kernel
theorem dX1_writeTo_67 : decode cX1_writeTo 67 = .ok (.getfield 12, 3) := by decide +kernel
theorem dX1_writeTo_70 : decode cX1_writeTo 70 = .ok (.iload_n 1, 1) := by decide +kernel
theorem dX1_writeTo_71 : decode cX1_writeTo 71 = .ok (.bipush 7, 2) := by decide +kernel
theorem dX1_writeTo_73 : decode cX1_writeTo 73 = .ok (.aload_n 0, 1) := by decide +kernel
theorem dX1_writeTo_74 : decode cX1_writeTo 74 = .ok (.getfield 41, 3) := by decide +kernel
theorem dX1_writeTo_77 : decode cX1_writeTo 77 = .ok (.invokevirtual 70, 3) := by decide +kernel
theorem dX1_writeTo_80 : decode cX1_writeTo 80 = .ok (.aload_n 0, 1) := by decide +kernel
theorem dX1_writeTo_81 : decode cX1_writeTo 81 = .ok (.getfield 12, 3) := by decide +kernel
theorem dX1_writeTo_84 : decode cX1_writeTo 84 = .ok (.iload_n 1, 1) := by decide +kernel
theorem dX1_writeTo_85 : decode cX1_writeTo 85 = .ok (.bipush 8, 2) := by decide +kernel
theorem dX1_writeTo_87 : decode cX1_writeTo 87 = .ok (.aload_n 0, 1) := by decide +kernel
theorem dX1_writeTo_88 : decode cX1_writeTo 88 = .ok (.getfield 44, 3) := by decide +kernel
theorem dX1_writeTo_91 : decode cX1_writeTo 91 = .ok (.invokevirtual 70, 3) := by decide +kernel
theorem dX1_writeTo_94 : decode cX1_writeTo 94 = .ok (.aload_n 0, 1) := by decide +kernel
theorem dX1_writeTo_95 : decode cX1_writeTo 95 = .ok (.getfield 12, 3) := by decide +kernel
theorem dX1_writeTo_98 : decode cX1_writeTo 98 = .ok (.iload_n 1, 1) := by decide +kernel
theorem dX1_writeTo_99 : decode cX1_writeTo 99 = .ok (.bipush 9, 2) := by decide +kernel
theorem dX1_writeTo_101 : decode cX1_writeTo 101 = .ok (.aload_n 0, 1) := by decide +kernel
theorem dX1_writeTo_102 : decode cX1_writeTo 102 = .ok (.getfield 47, 3) := by decide +kernel
theorem dX1_writeTo_105 : decode cX1_writeTo 105 = .ok (.invokevirtual 70, 3) := by decide +kernel
theorem dX1_writeTo_108 : decode cX1_writeTo 108 = .ok (.aload_n 0, 1) := by decide +kernel
theorem dX1_writeTo_109 : decode cX1_writeTo 109 = .ok (.getfield 12, 3) := by decide +kernel
theorem dX1_writeTo_112 : decode cX1_writeTo 112 = .ok (.iload_n 1, 1) := by decide +kernel
theorem dX1_writeTo_113 : decode cX1_writeTo 113 = .ok (.bipush 10, 2) := by decide +kernel
theorem dX1_writeTo_115 : decode cX1_writeTo 115 = .ok (.aload_n 0, 1) := by decide +kernel
theorem dX1_writeTo_116 : decode cX1_writeTo 116 = .ok (.getfield 50, 3) := by decide +kernel
theorem dX1_writeTo_119 : decode cX1_writeTo 119 = .ok (.invokevirtual 70, 3) := by decide +kernel
theorem dX1_writeTo_122 : decode cX1_writeTo 122 = .ok (.return_, 1) := by decide +kernel
theorem dX1_decide_0 : decode cX1_decide 0 = .ok (.aload_n 0, 1) := by decide +kernel
theorem dX1_decide_1 : decode cX1_decide 1 = .ok (.iload_n 1, 1) := by decide +kernel
theorem dX1_decide_2 : decode cX1_decide 2 = .ok (.putfield 38, 3) := by decide +kernel
theorem dX1_decide_5 : decode cX1_decide 5 = .ok (.aload_n 0, 1) := by decide +kernel
theorem dX1_decide_6 : decode cX1_decide 6 = .ok (.iload_n 2, 1) := by decide +kernel
theorem dX1_decide_7 : decode cX1_decide 7 = .ok (.putfield 41, 3) := by decide +kernel
theorem dX1_decide_10 : decode cX1_decide 10 = .ok (.aload_n 0, 1) := by decide +kernel
theorem dX1_decide_11 : decode cX1_decide 11 = .ok (.iload_n 3, 1) := by decide +kernel
theorem dX1_decide_12 : decode cX1_decide 12 = .ok (.putfield 44, 3) := by decide +kernel
theorem dX1_decide_15 : decode cX1_decide 15 = .ok (.aload_n 0, 1) := by decide +kernel
theorem dX1_decide_16 : decode cX1_decide 16 = .ok (.iload 4, 2) := by decide +kernel
theorem dX1_decide_18 : decode cX1_decide 18 = .ok (.putfield 47, 3) := by decide +kernel
theorem dX1_decide_21 : decode cX1_decide 21 = .ok (.aload_n 0, 1) := by decide +kernel
theorem dX1_decide_22 : decode cX1_decide 22 = .ok (.iload 5, 2) := by decide +kernel
theorem dX1_decide_24 : decode cX1_decide 24 = .ok (.putfield 50, 3) := by decide +kernel
theorem dX1_decide_27 : decode cX1_decide 27 = .ok (.return_, 1) := by decide +kernel
set_option maxRecDepth 20000 in
theorem ggX1_send_X1_bestColour : GoodIn wsX1_send wsX1_bestColour := goodIn_r _ [7, 8, 9, 10, 2, 11, 12, 13, 6, 14, 15, 16, 17, 18, 19, 20, 21, 22, 23, 24, 25, 26, 27, 28, 29, 30, 31, 32, 33, 34, 35, 36, 37, 38, 39, 40, 41, 42, 43, 44, 45, 46, 47, 48, 49, 50, 51, 52, 53, 54, 55, 56, 57, 58, 59, 60, 61, 62, 63, 64, 65, 66, 67, 68, 69, 70, 71, 81, 82, 83, 84, 85, 86, 87, 88, 89, 90, 91, 92, 93, 94, 95, 96, 97, 98, 99, 100] (by decide +kernel) (by decide +kernel)
set_option maxRecDepth 20000 in
theorem gX1_send_X1_bestColour : GoodIn wsX1_send (wsV RX1 74 RX1 yX1_bestColour wsX1_bestColour) := goodIn_app (goodIn_of _ (by decide +kernel)) ggX1_send_X1_bestColour
set_option maxRecDepth 20000 in
theorem ggX1_send_X1_decide : GoodIn wsX1_send wsX1_decide := goodIn_r _ [75, 76, 77, 78, 79, 80, 81, 82, 83, 84, 85, 86, 87, 88, 89, 90, 91] (by decide +kernel) (by decide +kernel)
set_option maxRecDepth 20000 in
theorem gX1_send_X1_decide : GoodIn wsX1_send (wsV RX1 53 RX1 yX1_decide wsX1_decide) := goodIn_app (goodIn_of _ (by decide +kernel)) ggX1_send_X1_decide
theorem dX1_send_0 : decode cX1_send 0 = .ok (.aload_n 0, 1) := by decide +kernel
theorem dX1_send_1 : decode cX1_send 1 = .ok (.aload_n 0, 1) := by decide +kernel
theorem dX1_send_2 : decode cX1_send 2 = .ok (.getfield 32, 3) := by decide +kernel
theorem dX1_send_5 : decode cX1_send 5 = .ok (.invokevirtual 74, 3) := by decide +kernel
theorem dX1_send_8 : decode cX1_send 8 = .ok (.istore_n 1, 1) := by decide +kernel
theorem dX1_send_9 : decode cX1_send 9 = .ok (.iload_n 1, 1) := by decide +kernel
theorem dX1_send_10 : decode cX1_send 10 = .ok (.bipush (-6), 2) := by decide +kernel
theorem dX1_send_12 : decode cX1_send 12 = .ok (.if_icmp .eq 19, 3) := by decide +kernel
theorem dX1_send_15 : decode cX1_send 15 = .ok (.aload_n 0, 1) := by decide +kernel
theorem dX1_send_16 : decode cX1_send 16 = .ok (.iconst 0, 1) := by decide +kernel
theorem dX1_send_17 : decode cX1_send 17 = .ok (.iload_n 1, 1) := by decide +kernel
theorem dX1_send_18 : decode cX1_send 18 = .ok (.aload_n 0, 1) := by decide +kernel
theorem dX1_send_19 : decode cX1_send 19 = .ok (.getfield 32, 3) := by decide +kernel
theorem dX1_send_22 : decode cX1_send 22 = .ok (.aload_n 0, 1) := by decide +kernel
theorem dX1_send_23 : decode cX1_send 23 = .ok (.getfield 35, 3) := by decide +kernel
theorem dX1_send_26 : decode cX1_send 26 = .ok (.bipush (-6), 2) := by decide +kernel
theorem dX1_send_28 : decode cX1_send 28 = .ok (.invokevirtual 53, 3) := by decide +kernel
theorem dX1_send_31 : decode cX1_send 31 = .ok (.return_, 1) := by decide +kernel
set_option maxRecDepth 20000 in
theorem ggX1_delay_X0_lengthNow : GoodIn wsX1_delay wsX0_lengthNow := goodIn_r _ [7, 8, 9, 10, 11, 103, 104, 105, 106, 107] (by decide +kernel) (by decide +kernel)
set_option maxRecDepth 20000 in
theorem gX1_delay_X0_lengthNow_n77 : GoodIn wsX1_delay (wsX0_lengthNow) := ggX1_delay_X0_lengthNow
set_option maxRecDepth 20000 in
theorem ggX1_delay_X1_isLineFree : GoodIn wsX1_delay wsX1_isLineFree := goodIn_r _ [16, 1, 17, 2, 3, 18, 5, 19, 20, 21, 22, 23, 24, 25, 26, 27, 28, 29, 30, 31, 9, 10, 11, 32, 33, 34, 35, 36, 37, 38, 39, 40, 41, 42, 43, 44, 45, 46, 47, 48, 49, 50, 51, 92, 93, 94, 95, 96, 97, 98, 99, 100, 101, 102, 103, 104, 105, 106, 107, 108, 109, 110, 111] (by decide +kernel) (by decide +kernel)
set_option maxRecDepth 20000 in
theorem gX1_delay_X1_isLineFree : GoodIn wsX1_delay (wsV RX1 80 RX1 yX1_isLineFree wsX1_isLineFree) := goodIn_app (goodIn_of _ (by decide +kernel)) ggX1_delay_X1_isLineFree
set_option maxRecDepth 20000 in
theorem ggX1_delay_X1_bestColour : GoodIn wsX1_delay wsX1_bestColour := goodIn_r _ [55, 1, 56, 17, 3, 57, 58, 59, 15, 60, 61, 62, 63, 47, 64, 65, 5, 66, 67, 68, 9, 10, 11, 69, 70, 71, 21, 22, 23, 24, 25, 26, 27, 28, 29, 30, 31, 32, 33, 34, 35, 36, 37, 72, 73, 74, 75, 38, 39, 40, 41, 42, 43, 44, 45, 46, 48, 49, 50, 51, 76, 77, 78, 79, 80, 81, 82, 92, 93, 94, 95, 96, 97, 98, 99, 100, 101, 102, 103, 104, 105, 106, 107, 108, 109, 110, 111] (by decide +kernel) (by decide +kernel)
set_option maxRecDepth 20000 in
theorem gX1_delay_X1_bestColour : GoodIn wsX1_delay (wsV RX1 74 RX1 yX1_bestColour wsX1_bestColour) := goodIn_app (goodIn_of _ (by decide +kernel)) ggX1_delay_X1_bestColour
set_option maxRecDepth 20000 in
theorem ggX1_delay_X1_decide : GoodIn wsX1_delay wsX1_decide := goodIn_r _ [86, 87, 88, 89, 90, 91, 92, 93, 94, 95, 96, 97, 98, 99, 100, 101, 102] (by decide +kernel) (by decide +kernel)
set_option maxRecDepth 20000 in
theorem gX1_delay_X1_decide : GoodIn wsX1_delay (wsV RX1 53 RX1 yX1_decide wsX1_decide) := goodIn_app (goodIn_of _ (by decide +kernel)) ggX1_delay_X1_decide
theorem dX1_delay_0 : decode cX1_delay 0 = .ok (.bipush (-6), 2) := by decide +kernel
theorem dX1_delay_2 : decode cX1_delay 2 = .ok (.istore_n 1, 1) := by decide +kernel
theorem dX1_delay_3 : decode cX1_delay 3 = .ok (.bipush (-6), 2) := by decide +kernel
theorem dX1_delay_5 : decode cX1_delay 5 = .ok (.istore_n 2, 1) := by decide +kernel
theorem dX1_delay_6 : decode cX1_delay 6 = .ok (.bipush 61, 2) := by decide +kernel
theorem dX1_delay_8 : decode cX1_delay 8 = .ok (.istore_n 3, 1) := by decide +kernel
theorem dX1_delay_9 : decode cX1_delay 9 = .ok (.iconst 0, 1) := by decide +kernel
theorem dX1_delay_10 : decode cX1_delay 10 = .ok (.istore 4, 2) := by decide +kernel
theorem dX1_delay_12 : decode cX1_delay 12 = .ok (.iload 4, 2) := by decide +kernel
theorem dX1_delay_14 : decode cX1_delay 14 = .ok (.iconst 3, 1) := by decide +kernel
theorem dX1_delay_15 : decode cX1_delay 15 = .ok (.if_icmp .ge 69, 3) := by decide +kernel
theorem dX1_delay_18 : decode cX1_delay 18 = .ok (.aload_n 0, 1) := by decide +kernel
theorem dX1_delay_19 : decode cX1_delay 19 = .ok (.getfield 12, 3) := by decide +kernel
theorem dX1_delay_22 : decode cX1_delay 22 = .ok (.iload 4, 2) := by decide +kernel
theorem dX1_delay_24 : decode cX1_delay 24 = .ok (.invokevirtual 77, 3) := by decide +kernel
theorem dX1_delay_27 : decode cX1_delay 27 = .ok (.istore 5, 2) := by decide +kernel
theorem dX1_delay_29 : decode cX1_delay 29 = .ok (.iload 5, 2) := by decide +kernel
theorem dX1_delay_31 : decode cX1_delay 31 = .ok (.ifCond .le 47, 3) := by decide +kernel
theorem dX1_delay_34 : decode cX1_delay 34 = .ok (.iload 5, 2) := by decide +kernel
theorem dX1_delay_36 : decode cX1_delay 36 = .ok (.iload_n 3, 1) := by decide +kernel
theorem dX1_delay_37 : decode cX1_delay 37 = .ok (.if_icmp .ge 41, 3) := by decide +kernel
theorem dX1_delay_40 : decode cX1_delay 40 = .ok (.aload_n 0, 1) := by decide +kernel
theorem dX1_delay_41 : decode cX1_delay 41 = .ok (.iload 4, 2) := by decide +kernel
theorem dX1_delay_43 : decode cX1_delay 43 = .ok (.invokevirtual 80, 3) := by decide +kernel
theorem dX1_delay_46 : decode cX1_delay 46 = .ok (.ifCond .eq 32, 3) := by decide +kernel
theorem dX1_delay_49 : decode cX1_delay 49 = .ok (.aload_n 0, 1) := by decide +kernel
theorem dX1_delay_50 : decode cX1_delay 50 = .ok (.aload_n 0, 1) := by decide +kernel
theorem dX1_delay_51 : decode cX1_delay 51 = .ok (.getfield 32, 3) := by decide +kernel
theorem dX1_delay_54 : decode cX1_delay 54 = .ok (.iload 5, 2) := by decide +kernel
theorem dX1_delay_56 : decode cX1_delay 56 = .ok (.iadd, 1) := by decide +kernel
theorem dX1_delay_57 : decode cX1_delay 57 = .ok (.invokevirtual 74, 3) := by decide +kernel
theorem dX1_delay_60 : decode cX1_delay 60 = .ok (.istore 6, 2) := by decide +kernel
theorem dX1_delay_62 : decode cX1_delay 62 = .ok (.iload 6, 2) := by decide +kernel
theorem dX1_delay_64 : decode cX1_delay 64 = .ok (.bipush (-6), 2) := by decide +kernel
theorem dX1_delay_66 : decode cX1_delay 66 = .ok (.if_icmp .eq 12, 3) := by decide +kernel
theorem dX1_delay_69 : decode cX1_delay 69 = .ok (.iload 4, 2) := by decide +kernel
theorem dX1_delay_71 : decode cX1_delay 71 = .ok (.istore_n 1, 1) := by decide +kernel
theorem dX1_delay_72 : decode cX1_delay 72 = .ok (.iload 6, 2) := by decide +kernel
theorem dX1_delay_74 : decode cX1_delay 74 = .ok (.istore_n 2, 1) := by decide +kernel
theorem dX1_delay_75 : decode cX1_delay 75 = .ok (.iload 5, 2) := by decide +kernel
theorem dX1_delay_77 : decode cX1_delay 77 = .ok (.istore_n 3, 1) := by decide +kernel
theorem dX1_delay_78 : decode cX1_delay 78 = .ok (.iinc 4 1, 3) := by decide +kernel
theorem dX1_delay_81 : decode cX1_delay 81 = .ok (.goto (-69), 3) := by decide +kernel
theorem dX1_delay_84 : decode cX1_delay 84 = .ok (.iload_n 1, 1) := by decide +kernel
theorem dX1_delay_85 : decode cX1_delay 85 = .ok (.bipush (-6), 2) := by decide +kernel
theorem dX1_delay_87 : decode cX1_delay 87 = .ok (.if_icmp .eq 20, 3) := by decide +kernel
theorem dX1_delay_90 : decode cX1_delay 90 = .ok (.aload_n 0, 1) := by decide +kernel
theorem dX1_delay_91 : decode cX1_delay 91 = .ok (.iconst 1, 1) := by decide +kernel
theorem dX1_delay_92 : decode cX1_delay 92 = .ok (.iload_n 2, 1) := by decide +kernel
theorem dX1_delay_93 : decode cX1_delay 93 = .ok (.aload_n 0, 1) := by decide +kernel
theorem dX1_delay_94 : decode cX1_delay 94 = .ok (.getfield 32, 3) := by decide +kernel
theorem dX1_delay_97 : decode cX1_delay 97 = .ok (.iload_n 3, 1) := by decide +kernel
theorem dX1_delay_98 : decode cX1_delay 98 = .ok (.iadd, 1) := by decide +kernel
theorem dX1_delay_99 : decode cX1_delay 99 = .ok (.aload_n 0, 1) := by decide +kernel
theorem dX1_delay_100 : decode cX1_delay 100 = .ok (.getfield 35, 3) := by decide +kernel
theorem dX1_delay_103 : decode cX1_delay 103 = .ok (.iload_n 1, 1) := by decide +kernel
theorem dX1_delay_104 : decode cX1_delay 104 = .ok (.invokevirtual 53, 3) := by decide +kernel
theorem dX1_delay_107 : decode cX1_delay 107 = .ok (.return_, 1) := by decide +kernel
set_option maxRecDepth 20000 in
theorem ggX1_cut_X1_awayFrom : GoodIn wsX1_cut wsX1_awayFrom := goodIn_r _ [10, 11, 12, 13, 14, 15, 74, 75, 76, 77, 78, 79, 80, 81, 82, 83, 84] (by decide +kernel) (by decide +kernel)
set_option maxRecDepth 20000 in
theorem gX1_cut_X1_awayFrom : GoodIn wsX1_cut (wsV RX1 84 RX1 yX1_awayFrom wsX1_awayFrom) := goodIn_app (goodIn_of _ (by decide +kernel)) ggX1_cut_X1_awayFrom
set_option maxRecDepth 20000 in
theorem ggX1_cut_X0_ruleNow : GoodIn wsX1_cut wsX0_ruleNow := goodIn_r _ [19, 20, 21, 22, 23, 85, 86, 87, 88, 89] (by decide +kernel) (by decide +kernel)
set_option maxRecDepth 20000 in
theorem gX1_cut_X0_ruleNow_n63 : GoodIn wsX1_cut (wsX0_ruleNow) := ggX1_cut_X0_ruleNow
set_option maxRecDepth 20000 in
theorem ggX1_cut_X0_showColour : GoodIn wsX1_cut wsX0_showColour := goodIn_r _ [26, 27, 28, 29, 30, 31, 32, 33, 34, 35, 17, 36, 37, 21, 22, 23, 38, 39, 40, 41, 42, 43, 85, 86, 87, 88, 89, 90, 91, 92, 93] (by decide +kernel) (by decide +kernel)
set_option maxRecDepth 20000 in
theorem gX1_cut_X0_showColour_n87 : GoodIn wsX1_cut (wsX0_showColour) := ggX1_cut_X0_showColour
set_option maxRecDepth 20000 in
theorem ggX1_cut_X1_fillsVoids : GoodIn wsX1_cut wsX1_fillsVoids := goodIn_r _ [47, 3, 16, 17, 18, 19, 20, 21, 22, 23, 74, 75, 76, 77, 78, 79, 80, 81, 82, 83, 84, 85, 86, 87, 88, 89] (by decide +kernel) (by decide +kernel)
set_option maxRecDepth 20000 in
theorem gX1_cut_X1_fillsVoids : GoodIn wsX1_cut (wsV RX1 91 RX1 yX1_fillsVoids wsX1_fillsVoids) := goodIn_app (goodIn_of _ (by decide +kernel)) ggX1_cut_X1_fillsVoids
set_option maxRecDepth 20000 in
theorem ggX1_cut_X2_pieceBegin : GoodIn wsX1_cut wsX2_pieceBegin := goodIn_r _ [50, 32, 43, 51, 52, 53, 29, 54, 41, 55, 56, 14, 57, 58, 59, 60, 90, 91, 92, 93] (by decide +kernel) (by decide +kernel)
set_option maxRecDepth 20000 in
theorem gX1_cut_X2_pieceBegin_n95 : GoodIn wsX1_cut (wsX2_pieceBegin) := ggX1_cut_X2_pieceBegin
set_option maxRecDepth 20000 in
theorem ggX1_cut_X2_room : GoodIn wsX1_cut wsX2_room := goodIn_r _ [54, 32, 43, 41, 55, 56, 14, 57, 58, 59, 60, 90, 91, 92, 93] (by decide +kernel) (by decide +kernel)
set_option maxRecDepth 20000 in
theorem gX1_cut_X2_room_n99 : GoodIn wsX1_cut (wsX2_room) := ggX1_cut_X2_room
set_option maxRecDepth 20000 in
theorem ggX1_cut_X1_isNearer : GoodIn wsX1_cut wsX1_isNearer := goodIn_r _ [64, 6, 7, 8, 9, 10, 11, 12, 13, 14, 15, 74, 75, 76, 77, 78, 79, 80, 81, 82, 83, 84] (by decide +kernel) (by decide +kernel)
set_option maxRecDepth 20000 in
theorem gX1_cut_X1_isNearer : GoodIn wsX1_cut (wsV RX1 102 RX1 yX1_isNearer wsX1_isNearer) := goodIn_app (goodIn_of _ (by decide +kernel)) ggX1_cut_X1_isNearer
set_option maxRecDepth 20000 in
theorem ggX1_cut_X1_decide : GoodIn wsX1_cut wsX1_decide := goodIn_r _ [68, 69, 70, 71, 72, 73, 74, 75, 76, 77, 78, 79, 80, 81, 82, 83, 84] (by decide +kernel) (by decide +kernel)
set_option maxRecDepth 20000 in
theorem gX1_cut_X1_decide : GoodIn wsX1_cut (wsV RX1 53 RX1 yX1_decide wsX1_decide) := goodIn_app (goodIn_of _ (by decide +kernel)) ggX1_cut_X1_decide
theorem dX1_cut_0 : decode cX1_cut 0 = .ok (.aload_n 0, 1) := by decide +kernel
theorem dX1_cut_1 : decode cX1_cut 1 = .ok (.getfield 32, 3) := by decide +kernel
theorem dX1_cut_4 : decode cX1_cut 4 = .ok (.aload_n 0, 1) := by decide +kernel
theorem dX1_cut_5 : decode cX1_cut 5 = .ok (.getfield 35, 3) := by decide +kernel
theorem dX1_cut_8 : decode cX1_cut 8 = .ok (.iadd, 1) := by decide +kernel
theorem dX1_cut_9 : decode cX1_cut 9 = .ok (.istore_n 1, 1) := by decide +kernel
theorem dX1_cut_10 : decode cX1_cut 10 = .ok (.bipush (-6), 2) := by decide +kernel
theorem dX1_cut_12 : decode cX1_cut 12 = .ok (.istore_n 2, 1) := by decide +kernel
theorem dX1_cut_13 : decode cX1_cut 13 = .ok (.bipush (-6), 2) := by decide +kernel
theorem dX1_cut_15 : decode cX1_cut 15 = .ok (.istore_n 3, 1) := by decide +kernel
theorem dX1_cut_16 : decode cX1_cut 16 = .ok (.iconst 0, 1) := by decide +kernel
theorem dX1_cut_17 : decode cX1_cut 17 = .ok (.istore 4, 2) := by decide +kernel
theorem dX1_cut_19 : decode cX1_cut 19 = .ok (.iconst 0, 1) := by decide +kernel
theorem dX1_cut_20 : decode cX1_cut 20 = .ok (.istore 5, 2) := by decide +kernel
theorem dX1_cut_22 : decode cX1_cut 22 = .ok (.iload 5, 2) := by decide +kernel
theorem dX1_cut_24 : decode cX1_cut 24 = .ok (.bipush 6, 2) := by decide +kernel
theorem dX1_cut_26 : decode cX1_cut 26 = .ok (.if_icmp .ge 117, 3) := by decide +kernel
theorem dX1_cut_29 : decode cX1_cut 29 = .ok (.aload_n 0, 1) := by decide +kernel
theorem dX1_cut_30 : decode cX1_cut 30 = .ok (.iload 5, 2) := by decide +kernel
theorem dX1_cut_32 : decode cX1_cut 32 = .ok (.invokevirtual 84, 3) := by decide +kernel
theorem dX1_cut_35 : decode cX1_cut 35 = .ok (.aload_n 0, 1) := by decide +kernel
theorem dX1_cut_36 : decode cX1_cut 36 = .ok (.getfield 12, 3) := by decide +kernel
theorem dX1_cut_39 : decode cX1_cut 39 = .ok (.iconst 0, 1) := by decide +kernel
theorem dX1_cut_40 : decode cX1_cut 40 = .ok (.invokevirtual 63, 3) := by decide +kernel
theorem dX1_cut_43 : decode cX1_cut 43 = .ok (.if_icmp .gt 94, 3) := by decide +kernel
theorem dX1_cut_46 : decode cX1_cut 46 = .ok (.aload_n 0, 1) := by decide +kernel
theorem dX1_cut_47 : decode cX1_cut 47 = .ok (.getfield 12, 3) := by decide +kernel
theorem dX1_cut_50 : decode cX1_cut 50 = .ok (.aload_n 0, 1) := by decide +kernel
theorem dX1_cut_51 : decode cX1_cut 51 = .ok (.getfield 25, 3) := by decide +kernel
theorem dX1_cut_54 : decode cX1_cut 54 = .ok (.iload 5, 2) := by decide +kernel
theorem dX1_cut_56 : decode cX1_cut 56 = .ok (.aload_n 0, 1) := by decide +kernel
theorem dX1_cut_57 : decode cX1_cut 57 = .ok (.getfield 21, 3) := by decide +kernel
theorem dX1_cut_60 : decode cX1_cut 60 = .ok (.invokevirtual 87, 3) := by decide +kernel
theorem dX1_cut_63 : decode cX1_cut 63 = .ok (.aload_n 0, 1) := by decide +kernel
theorem dX1_cut_64 : decode cX1_cut 64 = .ok (.getfield 21, 3) := by decide +kernel
theorem dX1_cut_67 : decode cX1_cut 67 = .ok (.aload_n 0, 1) := by decide +kernel
theorem dX1_cut_68 : decode cX1_cut 68 = .ok (.getfield 32, 3) := by decide +kernel
theorem dX1_cut_71 : decode cX1_cut 71 = .ok (.iload_n 1, 1) := by decide +kernel
theorem dX1_cut_72 : decode cX1_cut 72 = .ok (.aload_n 0, 1) := by decide +kernel
theorem dX1_cut_73 : decode cX1_cut 73 = .ok (.invokevirtual 91, 3) := by decide +kernel
theorem dX1_cut_76 : decode cX1_cut 76 = .ok (.invokevirtual 95, 3) := by decide +kernel
theorem dX1_cut_79 : decode cX1_cut 79 = .ok (.istore 6, 2) := by decide +kernel
theorem dX1_cut_81 : decode cX1_cut 81 = .ok (.aload_n 0, 1) := by decide +kernel
theorem dX1_cut_82 : decode cX1_cut 82 = .ok (.getfield 21, 3) := by decide +kernel
theorem dX1_cut_85 : decode cX1_cut 85 = .ok (.iload 6, 2) := by decide +kernel
theorem dX1_cut_87 : decode cX1_cut 87 = .ok (.iload_n 1, 1) := by decide +kernel
theorem dX1_cut_88 : decode cX1_cut 88 = .ok (.aload_n 0, 1) := by decide +kernel
theorem dX1_cut_89 : decode cX1_cut 89 = .ok (.invokevirtual 91, 3) := by decide +kernel
theorem dX1_cut_92 : decode cX1_cut 92 = .ok (.invokevirtual 99, 3) := by decide +kernel
theorem dX1_cut_95 : decode cX1_cut 95 = .ok (.istore 7, 2) := by decide +kernel
theorem dX1_cut_97 : decode cX1_cut 97 = .ok (.iload 7, 2) := by decide +kernel
theorem dX1_cut_99 : decode cX1_cut 99 = .ok (.iload 4, 2) := by decide +kernel
theorem dX1_cut_101 : decode cX1_cut 101 = .ok (.if_icmp .gt 26, 3) := by decide +kernel
theorem dX1_cut_104 : decode cX1_cut 104 = .ok (.iload 7, 2) := by decide +kernel
theorem dX1_cut_106 : decode cX1_cut 106 = .ok (.iload 4, 2) := by decide +kernel
theorem dX1_cut_108 : decode cX1_cut 108 = .ok (.if_icmp .ne 29, 3) := by decide +kernel
theorem dX1_cut_111 : decode cX1_cut 111 = .ok (.iload_n 2, 1) := by decide +kernel
theorem dX1_cut_112 : decode cX1_cut 112 = .ok (.bipush (-6), 2) := by decide +kernel
theorem dX1_cut_114 : decode cX1_cut 114 = .ok (.if_icmp .eq 23, 3) := by decide +kernel
theorem dX1_cut_117 : decode cX1_cut 117 = .ok (.aload_n 0, 1) := by decide +kernel
theorem dX1_cut_118 : decode cX1_cut 118 = .ok (.iload 5, 2) := by decide +kernel
theorem dX1_cut_120 : decode cX1_cut 120 = .ok (.iload_n 2, 1) := by decide +kernel
theorem dX1_cut_121 : decode cX1_cut 121 = .ok (.invokevirtual 102, 3) := by decide +kernel
theorem dX1_cut_124 : decode cX1_cut 124 = .ok (.ifCond .eq 13, 3) := by decide +kernel
theorem dX1_cut_127 : decode cX1_cut 127 = .ok (.iload 5, 2) := by decide +kernel
theorem dX1_cut_129 : decode cX1_cut 129 = .ok (.istore_n 2, 1) := by decide +kernel
theorem dX1_cut_130 : decode cX1_cut 130 = .ok (.iload 6, 2) := by decide +kernel
theorem dX1_cut_132 : decode cX1_cut 132 = .ok (.istore_n 3, 1) := by decide +kernel
theorem dX1_cut_133 : decode cX1_cut 133 = .ok (.iload 7, 2) := by decide +kernel
theorem dX1_cut_135 : decode cX1_cut 135 = .ok (.istore 4, 2) := by decide +kernel
theorem dX1_cut_137 : decode cX1_cut 137 = .ok (.iinc 5 1, 3) := by decide +kernel
theorem dX1_cut_140 : decode cX1_cut 140 = .ok (.goto (-118), 3) := by decide +kernel
theorem dX1_cut_143 : decode cX1_cut 143 = .ok (.iload_n 2, 1) := by decide +kernel
theorem dX1_cut_144 : decode cX1_cut 144 = .ok (.bipush (-6), 2) := by decide +kernel
theorem dX1_cut_146 : decode cX1_cut 146 = .ok (.if_icmp .eq 27, 3) := by decide +kernel
theorem dX1_cut_149 : decode cX1_cut 149 = .ok (.iload 4, 2) := by decide +kernel
theorem dX1_cut_151 : decode cX1_cut 151 = .ok (.aload_n 0, 1) := by decide +kernel
theorem dX1_cut_152 : decode cX1_cut 152 = .ok (.getfield 12, 3) := by decide +kernel
theorem dX1_cut_155 : decode cX1_cut 155 = .ok (.iconst 3, 1) := by decide +kernel
theorem dX1_cut_156 : decode cX1_cut 156 = .ok (.invokevirtual 63, 3) := by decide +kernel
theorem dX1_cut_159 : decode cX1_cut 159 = .ok (.if_icmp .lt 14, 3) := by decide +kernel
theorem dX1_cut_162 : decode cX1_cut 162 = .ok (.aload_n 0, 1) := by decide +kernel
theorem dX1_cut_163 : decode cX1_cut 163 = .ok (.iconst 2, 1) := by decide +kernel
theorem dX1_cut_164 : decode cX1_cut 164 = .ok (.iload_n 2, 1) := by decide +kernel
theorem dX1_cut_165 : decode cX1_cut 165 = .ok (.iload_n 3, 1) := by decide +kernel
theorem dX1_cut_166 : decode cX1_cut 166 = .ok (.iload 4, 2) := by decide +kernel
theorem dX1_cut_168 : decode cX1_cut 168 = .ok (.bipush (-6), 2) := by decide +kernel
theorem dX1_cut_170 : decode cX1_cut 170 = .ok (.invokevirtual 53, 3) := by decide +kernel
theorem dX1_cut_173 : decode cX1_cut 173 = .ok (.return_, 1) := by decide +kernel
set_option maxRecDepth 20000 in
theorem ggX1_bestColour_X1_awayFrom : GoodIn wsX1_bestColour wsX1_awayFrom := goodIn_r _ [9, 10, 11, 12, 13, 14, 67, 68, 69, 70, 71, 72, 73, 74, 75, 76, 77] (by decide +kernel) (by decide +kernel)
set_option maxRecDepth 20000 in
theorem gX1_bestColour_X1_awayFrom : GoodIn wsX1_bestColour (wsV RX1 84 RX1 yX1_awayFrom wsX1_awayFrom) := goodIn_app (goodIn_of _ (by decide +kernel)) ggX1_bestColour_X1_awayFrom
set_option maxRecDepth 20000 in
theorem ggX1_bestColour_X0_ruleNow : GoodIn wsX1_bestColour wsX0_ruleNow := goodIn_r _ [18, 19, 20, 21, 22, 78, 79, 80, 81, 82] (by decide +kernel) (by decide +kernel)
set_option maxRecDepth 20000 in
theorem gX1_bestColour_X0_ruleNow_n63 : GoodIn wsX1_bestColour (wsX0_ruleNow) := ggX1_bestColour_X0_ruleNow
set_option maxRecDepth 20000 in
theorem ggX1_bestColour_X0_showColour : GoodIn wsX1_bestColour wsX0_showColour := goodIn_r _ [25, 26, 27, 28, 29, 30, 31, 32, 33, 34, 16, 35, 36, 20, 21, 22, 37, 38, 39, 40, 41, 42, 78, 79, 80, 81, 82, 83, 84, 85, 86] (by decide +kernel) (by decide +kernel)
set_option maxRecDepth 20000 in
theorem gX1_bestColour_X0_showColour_n87 : GoodIn wsX1_bestColour (wsX0_showColour) := ggX1_bestColour_X0_showColour
set_option maxRecDepth 20000 in
theorem ggX1_bestColour_X1_fillsVoids : GoodIn wsX1_bestColour wsX1_fillsVoids := goodIn_r _ [46, 1, 15, 16, 17, 18, 19, 20, 21, 22, 67, 68, 69, 70, 71, 72, 73, 74, 75, 76, 77, 78, 79, 80, 81, 82] (by decide +kernel) (by decide +kernel)
set_option maxRecDepth 20000 in
theorem gX1_bestColour_X1_fillsVoids : GoodIn wsX1_bestColour (wsV RX1 91 RX1 yX1_fillsVoids wsX1_fillsVoids) := goodIn_app (goodIn_of _ (by decide +kernel)) ggX1_bestColour_X1_fillsVoids
set_option maxRecDepth 20000 in
theorem ggX1_bestColour_X2_isFree : GoodIn wsX1_bestColour wsX2_isFree := goodIn_r _ [49, 50, 51, 52, 28, 53, 31, 42, 40, 54, 55, 13, 56, 57, 58, 59, 83, 84, 85, 86] (by decide +kernel) (by decide +kernel)
set_option maxRecDepth 20000 in
theorem gX1_bestColour_X2_isFree_n106 : GoodIn wsX1_bestColour (wsX2_isFree) := ggX1_bestColour_X2_isFree
set_option maxRecDepth 20000 in
theorem ggX1_bestColour_X2_lastEndUpTo : GoodIn wsX1_bestColour wsX2_lastEndUpTo := goodIn_r _ [62, 31, 42, 57, 58, 13, 59, 83, 84, 85, 86] (by decide +kernel) (by decide +kernel)
set_option maxRecDepth 20000 in
theorem gX1_bestColour_X2_lastEndUpTo_n113 : GoodIn wsX1_bestColour (wsX2_lastEndUpTo) := ggX1_bestColour_X2_lastEndUpTo
set_option maxRecDepth 20000 in
theorem ggX1_bestColour_X1_isNearer : GoodIn wsX1_bestColour wsX1_isNearer := goodIn_r _ [66, 5, 6, 7, 8, 9, 10, 11, 12, 13, 14, 67, 68, 69, 70, 71, 72, 73, 74, 75, 76, 77] (by decide +kernel) (by decide +kernel)
set_option maxRecDepth 20000 in
theorem gX1_bestColour_X1_isNearer : GoodIn wsX1_bestColour (wsV RX1 102 RX1 yX1_isNearer wsX1_isNearer) := goodIn_app (goodIn_of _ (by decide +kernel)) ggX1_bestColour_X1_isNearer
theorem dX1_bestColour_0 : decode cX1_bestColour 0 = .ok (.bipush (-6), 2) := by decide +kernel
theorem dX1_bestColour_2 : decode cX1_bestColour 2 = .ok (.istore_n 2, 1) := by decide +kernel
theorem dX1_bestColour_3 : decode cX1_bestColour 3 = .ok (.iconst 0, 1) := by decide +kernel
theorem dX1_bestColour_4 : decode cX1_bestColour 4 = .ok (.istore_n 3, 1) := by decide +kernel
theorem dX1_bestColour_5 : decode cX1_bestColour 5 = .ok (.iconst 0, 1) := by decide +kernel
theorem dX1_bestColour_6 : decode cX1_bestColour 6 = .ok (.istore 4, 2) := by decide +kernel
theorem dX1_bestColour_8 : decode cX1_bestColour 8 = .ok (.iload 4, 2) := by decide +kernel
theorem dX1_bestColour_10 : decode cX1_bestColour 10 = .ok (.bipush 6, 2) := by decide +kernel
theorem dX1_bestColour_12 : decode cX1_bestColour 12 = .ok (.if_icmp .ge 117, 3) := by decide +kernel
theorem dX1_bestColour_15 : decode cX1_bestColour 15 = .ok (.aload_n 0, 1) := by decide +kernel
theorem dX1_bestColour_16 : decode cX1_bestColour 16 = .ok (.iload 4, 2) := by decide +kernel
theorem dX1_bestColour_18 : decode cX1_bestColour 18 = .ok (.invokevirtual 84, 3) := by decide +kernel
theorem dX1_bestColour_21 : decode cX1_bestColour 21 = .ok (.aload_n 0, 1) := by decide +kernel
theorem dX1_bestColour_22 : decode cX1_bestColour 22 = .ok (.getfield 12, 3) := by decide +kernel
theorem dX1_bestColour_25 : decode cX1_bestColour 25 = .ok (.iconst 0, 1) := by decide +kernel
theorem dX1_bestColour_26 : decode cX1_bestColour 26 = .ok (.invokevirtual 63, 3) := by decide +kernel
theorem dX1_bestColour_29 : decode cX1_bestColour 29 = .ok (.if_icmp .gt 94, 3) := by decide +kernel
theorem dX1_bestColour_32 : decode cX1_bestColour 32 = .ok (.aload_n 0, 1) := by decide +kernel
theorem dX1_bestColour_33 : decode cX1_bestColour 33 = .ok (.getfield 12, 3) := by decide +kernel
theorem dX1_bestColour_36 : decode cX1_bestColour 36 = .ok (.aload_n 0, 1) := by decide +kernel
theorem dX1_bestColour_37 : decode cX1_bestColour 37 = .ok (.getfield 25, 3) := by decide +kernel
theorem dX1_bestColour_40 : decode cX1_bestColour 40 = .ok (.iload 4, 2) := by decide +kernel
theorem dX1_bestColour_42 : decode cX1_bestColour 42 = .ok (.aload_n 0, 1) := by decide +kernel
theorem dX1_bestColour_43 : decode cX1_bestColour 43 = .ok (.getfield 21, 3) := by decide +kernel
theorem dX1_bestColour_46 : decode cX1_bestColour 46 = .ok (.invokevirtual 87, 3) := by decide +kernel
theorem dX1_bestColour_49 : decode cX1_bestColour 49 = .ok (.aload_n 0, 1) := by decide +kernel
theorem dX1_bestColour_50 : decode cX1_bestColour 50 = .ok (.getfield 21, 3) := by decide +kernel
theorem dX1_bestColour_53 : decode cX1_bestColour 53 = .ok (.iload_n 1, 1) := by decide +kernel
theorem dX1_bestColour_54 : decode cX1_bestColour 54 = .ok (.iload_n 1, 1) := by decide +kernel
theorem dX1_bestColour_55 : decode cX1_bestColour 55 = .ok (.aload_n 0, 1) := by decide +kernel
theorem dX1_bestColour_56 : decode cX1_bestColour 56 = .ok (.getfield 35, 3) := by decide +kernel
theorem dX1_bestColour_59 : decode cX1_bestColour 59 = .ok (.iadd, 1) := by decide +kernel
theorem dX1_bestColour_60 : decode cX1_bestColour 60 = .ok (.aload_n 0, 1) := by decide +kernel
theorem dX1_bestColour_61 : decode cX1_bestColour 61 = .ok (.invokevirtual 91, 3) := by decide +kernel
theorem dX1_bestColour_64 : decode cX1_bestColour 64 = .ok (.invokevirtual 106, 3) := by decide +kernel
theorem dX1_bestColour_67 : decode cX1_bestColour 67 = .ok (.ifCond .eq 56, 3) := by decide +kernel
theorem dX1_bestColour_70 : decode cX1_bestColour 70 = .ok (.iload_n 1, 1) := by decide +kernel
theorem dX1_bestColour_71 : decode cX1_bestColour 71 = .ok (.aload_n 0, 1) := by decide +kernel
theorem dX1_bestColour_72 : decode cX1_bestColour 72 = .ok (.getfield 21, 3) := by decide +kernel
theorem dX1_bestColour_75 : decode cX1_bestColour 75 = .ok (.iload_n 1, 1) := by decide +kernel
theorem dX1_bestColour_76 : decode cX1_bestColour 76 = .ok (.aload_n 0, 1) := by decide +kernel
theorem dX1_bestColour_77 : decode cX1_bestColour 77 = .ok (.getfield 12, 3) := by decide +kernel
theorem dX1_bestColour_80 : decode cX1_bestColour 80 = .ok (.getfield 110, 3) := by decide +kernel
theorem dX1_bestColour_83 : decode cX1_bestColour 83 = .ok (.invokevirtual 113, 3) := by decide +kernel
theorem dX1_bestColour_86 : decode cX1_bestColour 86 = .ok (.isub, 1) := by decide +kernel
theorem dX1_bestColour_87 : decode cX1_bestColour 87 = .ok (.istore 5, 2) := by decide +kernel
theorem dX1_bestColour_89 : decode cX1_bestColour 89 = .ok (.iload_n 2, 1) := by decide +kernel
theorem dX1_bestColour_90 : decode cX1_bestColour 90 = .ok (.bipush (-6), 2) := by decide +kernel
theorem dX1_bestColour_92 : decode cX1_bestColour 92 = .ok (.if_icmp .eq 25, 3) := by decide +kernel
theorem dX1_bestColour_95 : decode cX1_bestColour 95 = .ok (.iload 5, 2) := by decide +kernel
theorem dX1_bestColour_97 : decode cX1_bestColour 97 = .ok (.iload_n 3, 1) := by decide +kernel
theorem dX1_bestColour_98 : decode cX1_bestColour 98 = .ok (.if_icmp .lt 19, 3) := by decide +kernel
theorem dX1_bestColour_101 : decode cX1_bestColour 101 = .ok (.iload 5, 2) := by decide +kernel
theorem dX1_bestColour_103 : decode cX1_bestColour 103 = .ok (.iload_n 3, 1) := by decide +kernel
theorem dX1_bestColour_104 : decode cX1_bestColour 104 = .ok (.if_icmp .ne 19, 3) := by decide +kernel
theorem dX1_bestColour_107 : decode cX1_bestColour 107 = .ok (.aload_n 0, 1) := by decide +kernel
theorem dX1_bestColour_108 : decode cX1_bestColour 108 = .ok (.iload 4, 2) := by decide +kernel
theorem dX1_bestColour_110 : decode cX1_bestColour 110 = .ok (.iload_n 2, 1) := by decide +kernel
theorem dX1_bestColour_111 : decode cX1_bestColour 111 = .ok (.invokevirtual 102, 3) := by decide +kernel
theorem dX1_bestColour_114 : decode cX1_bestColour 114 = .ok (.ifCond .eq 9, 3) := by decide +kernel
theorem dX1_bestColour_117 : decode cX1_bestColour 117 = .ok (.iload 4, 2) := by decide +kernel
theorem dX1_bestColour_119 : decode cX1_bestColour 119 = .ok (.istore_n 2, 1) := by decide +kernel
theorem dX1_bestColour_120 : decode cX1_bestColour 120 = .ok (.iload 5, 2) := by decide +kernel
theorem dX1_bestColour_122 : decode cX1_bestColour 122 = .ok (.istore_n 3, 1) := by decide +kernel
theorem dX1_bestColour_123 : decode cX1_bestColour 123 = .ok (.iinc 4 1, 3) := by decide +kernel
theorem dX1_bestColour_126 : decode cX1_bestColour 126 = .ok (.goto (-118), 3) := by decide +kernel
theorem dX1_bestColour_129 : decode cX1_bestColour 129 = .ok (.iload_n 2, 1) := by decide +kernel
theorem dX1_bestColour_130 : decode cX1_bestColour 130 = .ok (.ireturn, 1) := by decide +kernel
set_option maxRecDepth 20000 in
theorem ggX1_isLineFree_X0_showLine : GoodIn wsX1_isLineFree wsX0_showLine := goodIn_r _ [8, 9, 10, 11, 12, 13, 14, 15, 16, 17, 6, 18, 19, 20, 21, 22, 23, 24, 25, 26, 27, 28, 54, 55, 56, 57, 58, 59, 60, 61, 62] (by decide +kernel) (by decide +kernel)
set_option maxRecDepth 20000 in
theorem gX1_isLineFree_X0_showLine_n117 : GoodIn wsX1_isLineFree (wsX0_showLine) := ggX1_isLineFree_X0_showLine
set_option maxRecDepth 20000 in
theorem ggX1_isLineFree_X2_isFree : GoodIn wsX1_isLineFree wsX2_isFree := goodIn_r _ [31, 32, 33, 34, 11, 35, 14, 28, 26, 36, 37, 38, 39, 40, 41, 42, 59, 60, 61, 62] (by decide +kernel) (by decide +kernel)
set_option maxRecDepth 20000 in
theorem gX1_isLineFree_X2_isFree_n106 : GoodIn wsX1_isLineFree (wsX2_isFree) := ggX1_isLineFree_X2_isFree
theorem dX1_isLineFree_0 : decode cX1_isLineFree 0 = .ok (.aload_n 0, 1) := by decide +kernel
theorem dX1_isLineFree_1 : decode cX1_isLineFree 1 = .ok (.getfield 12, 3) := by decide +kernel
theorem dX1_isLineFree_4 : decode cX1_isLineFree 4 = .ok (.iload_n 1, 1) := by decide +kernel
theorem dX1_isLineFree_5 : decode cX1_isLineFree 5 = .ok (.aload_n 0, 1) := by decide +kernel
theorem dX1_isLineFree_6 : decode cX1_isLineFree 6 = .ok (.getfield 21, 3) := by decide +kernel
theorem dX1_isLineFree_9 : decode cX1_isLineFree 9 = .ok (.invokevirtual 117, 3) := by decide +kernel
theorem dX1_isLineFree_12 : decode cX1_isLineFree 12 = .ok (.aload_n 0, 1) := by decide +kernel
theorem dX1_isLineFree_13 : decode cX1_isLineFree 13 = .ok (.getfield 21, 3) := by decide +kernel
theorem dX1_isLineFree_16 : decode cX1_isLineFree 16 = .ok (.aload_n 0, 1) := by decide +kernel
theorem dX1_isLineFree_17 : decode cX1_isLineFree 17 = .ok (.getfield 32, 3) := by decide +kernel
theorem dX1_isLineFree_20 : decode cX1_isLineFree 20 = .ok (.aload_n 0, 1) := by decide +kernel
theorem dX1_isLineFree_21 : decode cX1_isLineFree 21 = .ok (.getfield 32, 3) := by decide +kernel
theorem dX1_isLineFree_24 : decode cX1_isLineFree 24 = .ok (.aload_n 0, 1) := by decide +kernel
theorem dX1_isLineFree_25 : decode cX1_isLineFree 25 = .ok (.getfield 35, 3) := by decide +kernel
theorem dX1_isLineFree_28 : decode cX1_isLineFree 28 = .ok (.iadd, 1) := by decide +kernel
theorem dX1_isLineFree_29 : decode cX1_isLineFree 29 = .ok (.iconst 1, 1) := by decide +kernel
theorem dX1_isLineFree_30 : decode cX1_isLineFree 30 = .ok (.invokevirtual 106, 3) := by decide +kernel
theorem dX1_isLineFree_33 : decode cX1_isLineFree 33 = .ok (.ireturn, 1) := by decide +kernel
set_option maxRecDepth 20000 in
theorem ggX1_fillsVoids_X0_ruleNow : GoodIn wsX1_fillsVoids wsX0_ruleNow := goodIn_r _ [5, 6, 7, 8, 9, 21, 22, 23, 24, 25] (by decide +kernel) (by decide +kernel)
set_option maxRecDepth 20000 in
theorem gX1_fillsVoids_X0_ruleNow_n63 : GoodIn wsX1_fillsVoids (wsX0_ruleNow) := ggX1_fillsVoids_X0_ruleNow
theorem dX1_fillsVoids_0 : decode cX1_fillsVoids 0 = .ok (.aload_n 0, 1) := by decide +kernel
theorem dX1_fillsVoids_1 : decode cX1_fillsVoids 1 = .ok (.getfield 12, 3) := by decide +kernel
theorem dX1_fillsVoids_4 : decode cX1_fillsVoids 4 = .ok (.iconst 5, 1) := by decide +kernel
theorem dX1_fillsVoids_5 : decode cX1_fillsVoids 5 = .ok (.invokevirtual 63, 3) := by decide +kernel
theorem dX1_fillsVoids_8 : decode cX1_fillsVoids 8 = .ok (.iconst 1, 1) := by decide +kernel
theorem dX1_fillsVoids_9 : decode cX1_fillsVoids 9 = .ok (.if_icmp .ne 7, 3) := by decide +kernel
theorem dX1_fillsVoids_12 : decode cX1_fillsVoids 12 = .ok (.iconst 1, 1) := by decide +kernel
theorem dX1_fillsVoids_13 : decode cX1_fillsVoids 13 = .ok (.goto 4, 3) := by decide +kernel
theorem dX1_fillsVoids_16 : decode cX1_fillsVoids 16 = .ok (.iconst 0, 1) := by decide +kernel
theorem dX1_fillsVoids_17 : decode cX1_fillsVoids 17 = .ok (.ireturn, 1) := by decide +kernel
theorem dX1_awayFrom_0 : decode cX1_awayFrom 0 = .ok (.iload_n 1, 1) := by decide +kernel
theorem dX1_awayFrom_1 : decode cX1_awayFrom 1 = .ok (.aload_n 0, 1) := by decide +kernel
theorem dX1_awayFrom_2 : decode cX1_awayFrom 2 = .ok (.getfield 29, 3) := by decide +kernel
theorem dX1_awayFrom_5 : decode cX1_awayFrom 5 = .ok (.isub, 1) := by decide +kernel
theorem dX1_awayFrom_6 : decode cX1_awayFrom 6 = .ok (.invokestatic 121, 3) := by decide +kernel
theorem dX1_awayFrom_9 : decode cX1_awayFrom 9 = .ok (.ireturn, 1) := by decide +kernel
set_option maxRecDepth 20000 in
theorem ggX1_isNearer_X1_awayFrom : GoodIn wsX1_isNearer wsX1_awayFrom := goodIn_r _ [5, 6, 7, 8, 9, 10, 11, 12, 13, 14, 15, 16, 17, 18, 19, 20, 21] (by decide +kernel) (by decide +kernel)
set_option maxRecDepth 20000 in
theorem gX1_isNearer_X1_awayFrom : GoodIn wsX1_isNearer (wsV RX1 84 RX1 yX1_awayFrom wsX1_awayFrom) := goodIn_app (goodIn_of _ (by decide +kernel)) ggX1_isNearer_X1_awayFrom
theorem dX1_isNearer_0 : decode cX1_isNearer 0 = .ok (.aload_n 0, 1) := by decide +kernel
theorem dX1_isNearer_1 : decode cX1_isNearer 1 = .ok (.iload_n 1, 1) := by decide +kernel
theorem dX1_isNearer_2 : decode cX1_isNearer 2 = .ok (.invokevirtual 84, 3) := by decide +kernel
theorem dX1_isNearer_5 : decode cX1_isNearer 5 = .ok (.aload_n 0, 1) := by decide +kernel
theorem dX1_isNearer_6 : decode cX1_isNearer 6 = .ok (.iload_n 2, 1) := by decide +kernel
theorem dX1_isNearer_7 : decode cX1_isNearer 7 = .ok (.invokevirtual 84, 3) := by decide +kernel
theorem dX1_isNearer_10 : decode cX1_isNearer 10 = .ok (.if_icmp .ge 7, 3) := by decide +kernel
theorem dX1_isNearer_13 : decode cX1_isNearer 13 = .ok (.iconst 1, 1) := by decide +kernel
theorem dX1_isNearer_14 : decode cX1_isNearer 14 = .ok (.goto 4, 3) := by decide +kernel
theorem dX1_isNearer_17 : decode cX1_isNearer 17 = .ok (.iconst 0, 1) := by decide +kernel
theorem dX1_isNearer_18 : decode cX1_isNearer 18 = .ok (.ireturn, 1) := by decide +kernel
theorem dX2_init_0 : decode cX2_init 0 = .ok (.aload_n 0, 1) := by decide +kernel
theorem dX2_init_1 : decode cX2_init 1 = .ok (.invokespecial 3, 3) := by decide +kernel
theorem dX2_init_4 : decode cX2_init 4 = .ok (.aload_n 0, 1) := by decide +kernel
theorem dX2_init_5 : decode cX2_init 5 = .ok (.iconst 0, 1) := by decide +kernel
theorem dX2_init_6 : decode cX2_init 6 = .ok (.putfield 9, 3) := by decide +kernel
theorem dX2_init_9 : decode cX2_init 9 = .ok (.aload_n 0, 1) := by decide +kernel
theorem dX2_init_10 : decode cX2_init 10 = .ok (.bipush 48, 2) := by decide +kernel
theorem dX2_init_12 : decode cX2_init 12 = .ok (.newarray .int, 2) := by decide +kernel
theorem dX2_init_14 : decode cX2_init 14 = .ok (.putfield 15, 3) := by decide +kernel
theorem dX2_init_17 : decode cX2_init 17 = .ok (.aload_n 0, 1) := by decide +kernel
theorem dX2_init_18 : decode cX2_init 18 = .ok (.bipush 48, 2) := by decide +kernel
theorem dX2_init_20 : decode cX2_init 20 = .ok (.newarray .int, 2) := by decide +kernel
theorem dX2_init_22 : decode cX2_init 22 = .ok (.putfield 19, 3) := by decide +kernel
theorem dX2_init_25 : decode cX2_init 25 = .ok (.aload_n 0, 1) := by decide +kernel
theorem dX2_init_26 : decode cX2_init 26 = .ok (.bipush 48, 2) := by decide +kernel
theorem dX2_init_28 : decode cX2_init 28 = .ok (.newarray .int, 2) := by decide +kernel
theorem dX2_init_30 : decode cX2_init 30 = .ok (.putfield 22, 3) := by decide +kernel
theorem dX2_init_33 : decode cX2_init 33 = .ok (.return_, 1) := by decide +kernel
theorem dX2_clear_0 : decode cX2_clear 0 = .ok (.aload_n 0, 1) := by decide +kernel
theorem dX2_clear_1 : decode cX2_clear 1 = .ok (.iconst 0, 1) := by decide +kernel
theorem dX2_clear_2 : decode cX2_clear 2 = .ok (.putfield 9, 3) := by decide +kernel
theorem dX2_clear_5 : decode cX2_clear 5 = .ok (.return_, 1) := by decide +kernel
set_option maxRecDepth 20000 in
theorem ggX2_add_X3_isBelow : GoodIn wsX2_add wsX3_isBelow := goodIn_r _ [7] (by decide +kernel) (by decide +kernel)
set_option maxRecDepth 20000 in
theorem gX2_add_X3_isBelow_n25 : GoodIn wsX2_add (wsX3_isBelow) := ggX2_add_X3_isBelow
theorem dX2_add_0 : decode cX2_add 0 = .ok (.aload_n 0, 1) := by decide +kernel
theorem dX2_add_1 : decode cX2_add 1 = .ok (.getfield 9, 3) := by decide +kernel
theorem dX2_add_4 : decode cX2_add 4 = .ok (.bipush 48, 2) := by decide +kernel
theorem dX2_add_6 : decode cX2_add 6 = .ok (.invokestatic 25, 3) := by decide +kernel
theorem dX2_add_9 : decode cX2_add 9 = .ok (.ifCond .ne 4, 3) := by decide +kernel
theorem dX2_add_12 : decode cX2_add 12 = .ok (.return_, 1) := by decide +kernel
theorem dX2_add_13 : decode cX2_add 13 = .ok (.aload_n 0, 1) := by decide +kernel
theorem dX2_add_14 : decode cX2_add 14 = .ok (.getfield 9, 3) := by decide +kernel
theorem dX2_add_17 : decode cX2_add 17 = .ok (.istore 4, 2) := by decide +kernel
theorem dX2_add_19 : decode cX2_add 19 = .ok (.iload 4, 2) := by decide +kernel
theorem dX2_add_21 : decode cX2_add 21 = .ok (.ifCond .le 70, 3) := by decide +kernel
theorem dX2_add_24 : decode cX2_add 24 = .ok (.aload_n 0, 1) := by decide +kernel
theorem dX2_add_25 : decode cX2_add 25 = .ok (.getfield 19, 3) := by decide +kernel
theorem dX2_add_28 : decode cX2_add 28 = .ok (.iload 4, 2) := by decide +kernel
theorem dX2_add_30 : decode cX2_add 30 = .ok (.iconst 1, 1) := by decide +kernel
theorem dX2_add_31 : decode cX2_add 31 = .ok (.isub, 1) := by decide +kernel
theorem dX2_add_32 : decode cX2_add 32 = .ok (.iaload, 1) := by decide +kernel
theorem dX2_add_33 : decode cX2_add 33 = .ok (.iload_n 2, 1) := by decide +kernel
theorem dX2_add_34 : decode cX2_add 34 = .ok (.if_icmp .le 57, 3) := by decide +kernel
theorem dX2_add_37 : decode cX2_add 37 = .ok (.aload_n 0, 1) := by decide +kernel
theorem dX2_add_38 : decode cX2_add 38 = .ok (.getfield 15, 3) := by decide +kernel
theorem dX2_add_41 : decode cX2_add 41 = .ok (.iload 4, 2) := by decide +kernel
theorem dX2_add_43 : decode cX2_add 43 = .ok (.aload_n 0, 1) := by decide +kernel
theorem dX2_add_44 : decode cX2_add 44 = .ok (.getfield 15, 3) := by decide +kernel
theorem dX2_add_47 : decode cX2_add 47 = .ok (.iload 4, 2) := by decide +kernel
theorem dX2_add_49 : decode cX2_add 49 = .ok (.iconst 1, 1) := by decide +kernel
theorem dX2_add_50 : decode cX2_add 50 = .ok (.isub, 1) := by decide +kernel
theorem dX2_add_51 : decode cX2_add 51 = .ok (.iaload, 1) := by decide +kernel
theorem dX2_add_52 : decode cX2_add 52 = .ok (.iastore, 1) := by decide +kernel
theorem dX2_add_53 : decode cX2_add 53 = .ok (.aload_n 0, 1) := by decide +kernel
theorem dX2_add_54 : decode cX2_add 54 = .ok (.getfield 19, 3) := by decide +kernel
theorem dX2_add_57 : decode cX2_add 57 = .ok (.iload 4, 2) := by decide +kernel
theorem dX2_add_59 : decode cX2_add 59 = .ok (.aload_n 0, 1) := by decide +kernel
theorem dX2_add_60 : decode cX2_add 60 = .ok (.getfield 19, 3) := by decide +kernel
theorem dX2_add_63 : decode cX2_add 63 = .ok (.iload 4, 2) := by decide +kernel
theorem dX2_add_65 : decode cX2_add 65 = .ok (.iconst 1, 1) := by decide +kernel
theorem dX2_add_66 : decode cX2_add 66 = .ok (.isub, 1) := by decide +kernel
theorem dX2_add_67 : decode cX2_add 67 = .ok (.iaload, 1) := by decide +kernel
theorem dX2_add_68 : decode cX2_add 68 = .ok (.iastore, 1) := by decide +kernel
theorem dX2_add_69 : decode cX2_add 69 = .ok (.aload_n 0, 1) := by decide +kernel
theorem dX2_add_70 : decode cX2_add 70 = .ok (.getfield 22, 3) := by decide +kernel
theorem dX2_add_73 : decode cX2_add 73 = .ok (.iload 4, 2) := by decide +kernel
theorem dX2_add_75 : decode cX2_add 75 = .ok (.aload_n 0, 1) := by decide +kernel
theorem dX2_add_76 : decode cX2_add 76 = .ok (.getfield 22, 3) := by decide +kernel
theorem dX2_add_79 : decode cX2_add 79 = .ok (.iload 4, 2) := by decide +kernel
theorem dX2_add_81 : decode cX2_add 81 = .ok (.iconst 1, 1) := by decide +kernel
theorem dX2_add_82 : decode cX2_add 82 = .ok (.isub, 1) := by decide +kernel
theorem dX2_add_83 : decode cX2_add 83 = .ok (.iaload, 1) := by decide +kernel
theorem dX2_add_84 : decode cX2_add 84 = .ok (.iastore, 1) := by decide +kernel
theorem dX2_add_85 : decode cX2_add 85 = .ok (.iinc 4 (-1), 3) := by decide +kernel
theorem dX2_add_88 : decode cX2_add 88 = .ok (.goto (-69), 3) := by decide +kernel
theorem dX2_add_91 : decode cX2_add 91 = .ok (.aload_n 0, 1) := by decide +kernel
theorem dX2_add_92 : decode cX2_add 92 = .ok (.getfield 15, 3) := by decide +kernel
theorem dX2_add_95 : decode cX2_add 95 = .ok (.iload 4, 2) := by decide +kernel
theorem dX2_add_97 : decode cX2_add 97 = .ok (.iload_n 1, 1) := by decide +kernel
theorem dX2_add_98 : decode cX2_add 98 = .ok (.iastore, 1) := by decide +kernel
theorem dX2_add_99 : decode cX2_add 99 = .ok (.aload_n 0, 1) := by decide +kernel
theorem dX2_add_100 : decode cX2_add 100 = .ok (.getfield 19, 3) := by decide +kernel
theorem dX2_add_103 : decode cX2_add 103 = .ok (.iload 4, 2) := by decide +kernel
theorem dX2_add_105 : decode cX2_add 105 = .ok (.iload_n 2, 1) := by decide +kernel
theorem dX2_add_106 : decode cX2_add 106 = .ok (.iastore, 1) := by decide +kernel
theorem dX2_add_107 : decode cX2_add 107 = .ok (.aload_n 0, 1) := by decide +kernel
theorem dX2_add_108 : decode cX2_add 108 = .ok (.getfield 22, 3) := by decide +kernel
theorem dX2_add_111 : decode cX2_add 111 = .ok (.iload 4, 2) := by decide +kernel
theorem dX2_add_113 : decode cX2_add 113 = .ok (.iload_n 2, 1) := by decide +kernel
theorem dX2_add_114 : decode cX2_add 114 = .ok (.iload_n 3, 1) := by decide +kernel
theorem dX2_add_115 : decode cX2_add 115 = .ok (.iadd, 1) := by decide +kernel
theorem dX2_add_116 : decode cX2_add 116 = .ok (.iastore, 1) := by decide +kernel
theorem dX2_add_117 : decode cX2_add 117 = .ok (.aload_n 0, 1) := by decide +kernel
theorem dX2_add_118 : decode cX2_add 118 = .ok (.dup, 1) := by decide +kernel
theorem dX2_add_119 : decode cX2_add 119 = .ok (.getfield 9, 3) := by decide +kernel
theorem dX2_add_122 : decode cX2_add 122 = .ok (.iconst 1, 1) := by decide +kernel
theorem dX2_add_123 : decode cX2_add 123 = .ok (.iadd, 1) := by decide +kernel
theorem dX2_add_124 : decode cX2_add 124 = .ok (.putfield 9, 3) := by decide +kernel
theorem dX2_add_127 : decode cX2_add 127 = .ok (.return_, 1) := by decide +kernel
set_option maxRecDepth 20000 in
theorem ggX2_has_X3_isBelow : GoodIn wsX2_has wsX3_isBelow := goodIn_r _ [4] (by decide +kernel) (by decide +kernel)
set_option maxRecDepth 20000 in
theorem gX2_has_X3_isBelow_n25 : GoodIn wsX2_has (wsX3_isBelow) := ggX2_has_X3_isBelow
theorem dX2_has_0 : decode cX2_has 0 = .ok (.iload_n 1, 1) := by decide +kernel
theorem dX2_has_1 : decode cX2_has 1 = .ok (.aload_n 0, 1) := by decide +kernel
theorem dX2_has_2 : decode cX2_has 2 = .ok (.getfield 9, 3) := by decide +kernel
theorem dX2_has_5 : decode cX2_has 5 = .ok (.invokestatic 25, 3) := by decide +kernel
theorem dX2_has_8 : decode cX2_has 8 = .ok (.ireturn, 1) := by decide +kernel
set_option maxRecDepth 20000 in
theorem ggX2_begin_X2_has : GoodIn wsX2_begin wsX2_has := goodIn_r _ [6, 7, 8, 9, 10, 11, 12, 13, 14] (by decide +kernel) (by decide +kernel)
set_option maxRecDepth 20000 in
theorem gX2_begin_X2_has : GoodIn wsX2_begin (wsV RX2 29 RX2 yX2_has wsX2_has) := goodIn_app (goodIn_of _ (by decide +kernel)) ggX2_begin_X2_has
theorem dX2_begin_0 : decode cX2_begin 0 = .ok (.aload_n 0, 1) := by decide +kernel
theorem dX2_begin_1 : decode cX2_begin 1 = .ok (.iload_n 1, 1) := by decide +kernel
theorem dX2_begin_2 : decode cX2_begin 2 = .ok (.invokevirtual 29, 3) := by decide +kernel
theorem dX2_begin_5 : decode cX2_begin 5 = .ok (.ifCond .eq 12, 3) := by decide +kernel
theorem dX2_begin_8 : decode cX2_begin 8 = .ok (.aload_n 0, 1) := by decide +kernel
theorem dX2_begin_9 : decode cX2_begin 9 = .ok (.getfield 19, 3) := by decide +kernel
theorem dX2_begin_12 : decode cX2_begin 12 = .ok (.iload_n 1, 1) := by decide +kernel
theorem dX2_begin_13 : decode cX2_begin 13 = .ok (.iaload, 1) := by decide +kernel
theorem dX2_begin_14 : decode cX2_begin 14 = .ok (.goto 5, 3) := by decide +kernel
theorem dX2_begin_17 : decode cX2_begin 17 = .ok (.bipush (-6), 2) := by decide +kernel
theorem dX2_begin_19 : decode cX2_begin 19 = .ok (.ireturn, 1) := by decide +kernel
set_option maxRecDepth 20000 in
theorem ggX2_ticks_X2_has : GoodIn wsX2_ticks wsX2_has := goodIn_r _ [7, 8, 9, 10, 11, 12, 13, 14, 15] (by decide +kernel) (by decide +kernel)
set_option maxRecDepth 20000 in
theorem gX2_ticks_X2_has : GoodIn wsX2_ticks (wsV RX2 29 RX2 yX2_has wsX2_has) := goodIn_app (goodIn_of _ (by decide +kernel)) ggX2_ticks_X2_has
theorem dX2_ticks_0 : decode cX2_ticks 0 = .ok (.aload_n 0, 1) := by decide +kernel
theorem dX2_ticks_1 : decode cX2_ticks 1 = .ok (.iload_n 1, 1) := by decide +kernel
theorem dX2_ticks_2 : decode cX2_ticks 2 = .ok (.invokevirtual 29, 3) := by decide +kernel
theorem dX2_ticks_5 : decode cX2_ticks 5 = .ok (.ifCond .eq 19, 3) := by decide +kernel
theorem dX2_ticks_8 : decode cX2_ticks 8 = .ok (.aload_n 0, 1) := by decide +kernel
theorem dX2_ticks_9 : decode cX2_ticks 9 = .ok (.getfield 22, 3) := by decide +kernel
theorem dX2_ticks_12 : decode cX2_ticks 12 = .ok (.iload_n 1, 1) := by decide +kernel
theorem dX2_ticks_13 : decode cX2_ticks 13 = .ok (.iaload, 1) := by decide +kernel
theorem dX2_ticks_14 : decode cX2_ticks 14 = .ok (.aload_n 0, 1) := by decide +kernel
theorem dX2_ticks_15 : decode cX2_ticks 15 = .ok (.getfield 19, 3) := by decide +kernel
theorem dX2_ticks_18 : decode cX2_ticks 18 = .ok (.iload_n 1, 1) := by decide +kernel
theorem dX2_ticks_19 : decode cX2_ticks 19 = .ok (.iaload, 1) := by decide +kernel
theorem dX2_ticks_20 : decode cX2_ticks 20 = .ok (.isub, 1) := by decide +kernel
theorem dX2_ticks_21 : decode cX2_ticks 21 = .ok (.goto 5, 3) := by decide +kernel
theorem dX2_ticks_24 : decode cX2_ticks 24 = .ok (.bipush (-6), 2) := by decide +kernel
theorem dX2_ticks_26 : decode cX2_ticks 26 = .ok (.ireturn, 1) := by decide +kernel
set_option maxRecDepth 20000 in
theorem ggX2_burstOf_X2_has : GoodIn wsX2_burstOf wsX2_has := goodIn_r _ [6, 7, 8, 9, 10, 11, 12, 13, 14] (by decide +kernel) (by decide +kernel)
set_option maxRecDepth 20000 in
theorem gX2_burstOf_X2_has : GoodIn wsX2_burstOf (wsV RX2 29 RX2 yX2_has wsX2_has) := goodIn_app (goodIn_of _ (by decide +kernel)) ggX2_burstOf_X2_has
theorem dX2_burstOf_0 : decode cX2_burstOf 0 = .ok (.aload_n 0, 1) := by decide +kernel
theorem dX2_burstOf_1 : decode cX2_burstOf 1 = .ok (.iload_n 1, 1) := by decide +kernel
theorem dX2_burstOf_2 : decode cX2_burstOf 2 = .ok (.invokevirtual 29, 3) := by decide +kernel
theorem dX2_burstOf_5 : decode cX2_burstOf 5 = .ok (.ifCond .eq 12, 3) := by decide +kernel
theorem dX2_burstOf_8 : decode cX2_burstOf 8 = .ok (.aload_n 0, 1) := by decide +kernel
theorem dX2_burstOf_9 : decode cX2_burstOf 9 = .ok (.getfield 15, 3) := by decide +kernel
theorem dX2_burstOf_12 : decode cX2_burstOf 12 = .ok (.iload_n 1, 1) := by decide +kernel
theorem dX2_burstOf_13 : decode cX2_burstOf 13 = .ok (.iaload, 1) := by decide +kernel
theorem dX2_burstOf_14 : decode cX2_burstOf 14 = .ok (.goto 5, 3) := by decide +kernel
theorem dX2_burstOf_17 : decode cX2_burstOf 17 = .ok (.bipush (-6), 2) := by decide +kernel
theorem dX2_burstOf_19 : decode cX2_burstOf 19 = .ok (.ireturn, 1) := by decide +kernel
set_option maxRecDepth 20000 in
theorem ggX2_lastEnd_X2_has : GoodIn wsX2_lastEnd wsX2_has := goodIn_r _ [7, 1, 8, 9, 10, 11, 12, 13, 14] (by decide +kernel) (by decide +kernel)
set_option maxRecDepth 20000 in
theorem gX2_lastEnd_X2_has : GoodIn wsX2_lastEnd (wsV RX2 29 RX2 yX2_has wsX2_has) := goodIn_app (goodIn_of _ (by decide +kernel)) ggX2_lastEnd_X2_has
theorem dX2_lastEnd_0 : decode cX2_lastEnd 0 = .ok (.aload_n 0, 1) := by decide +kernel
theorem dX2_lastEnd_1 : decode cX2_lastEnd 1 = .ok (.aload_n 0, 1) := by decide +kernel
theorem dX2_lastEnd_2 : decode cX2_lastEnd 2 = .ok (.getfield 9, 3) := by decide +kernel
theorem dX2_lastEnd_5 : decode cX2_lastEnd 5 = .ok (.iconst 1, 1) := by decide +kernel
theorem dX2_lastEnd_6 : decode cX2_lastEnd 6 = .ok (.isub, 1) := by decide +kernel
theorem dX2_lastEnd_7 : decode cX2_lastEnd 7 = .ok (.invokevirtual 29, 3) := by decide +kernel
theorem dX2_lastEnd_10 : decode cX2_lastEnd 10 = .ok (.ifCond .eq 17, 3) := by decide +kernel
theorem dX2_lastEnd_13 : decode cX2_lastEnd 13 = .ok (.aload_n 0, 1) := by decide +kernel
theorem dX2_lastEnd_14 : decode cX2_lastEnd 14 = .ok (.getfield 22, 3) := by decide +kernel
theorem dX2_lastEnd_17 : decode cX2_lastEnd 17 = .ok (.aload_n 0, 1) := by decide +kernel
theorem dX2_lastEnd_18 : decode cX2_lastEnd 18 = .ok (.getfield 9, 3) := by decide +kernel
theorem dX2_lastEnd_21 : decode cX2_lastEnd 21 = .ok (.iconst 1, 1) := by decide +kernel
theorem dX2_lastEnd_22 : decode cX2_lastEnd 22 = .ok (.isub, 1) := by decide +kernel
theorem dX2_lastEnd_23 : decode cX2_lastEnd 23 = .ok (.iaload, 1) := by decide +kernel
theorem dX2_lastEnd_24 : decode cX2_lastEnd 24 = .ok (.goto 5, 3) := by decide +kernel
theorem dX2_lastEnd_27 : decode cX2_lastEnd 27 = .ok (.bipush (-6), 2) := by decide +kernel
theorem dX2_lastEnd_29 : decode cX2_lastEnd 29 = .ok (.ireturn, 1) := by decide +kernel
theorem dX2_lastEndUpTo_0 : decode cX2_lastEndUpTo 0 = .ok (.iload_n 2, 1) := by decide +kernel
theorem dX2_lastEndUpTo_1 : decode cX2_lastEndUpTo 1 = .ok (.istore_n 3, 1) := by decide +kernel
theorem dX2_lastEndUpTo_2 : decode cX2_lastEndUpTo 2 = .ok (.iconst 0, 1) := by decide +kernel
theorem dX2_lastEndUpTo_3 : decode cX2_lastEndUpTo 3 = .ok (.istore 4, 2) := by decide +kernel
theorem dX2_lastEndUpTo_5 : decode cX2_lastEndUpTo 5 = .ok (.iload 4, 2) := by decide +kernel
theorem dX2_lastEndUpTo_7 : decode cX2_lastEndUpTo 7 = .ok (.aload_n 0, 1) := by decide +kernel
theorem dX2_lastEndUpTo_8 : decode cX2_lastEndUpTo 8 = .ok (.getfield 9, 3) := by decide +kernel
theorem dX2_lastEndUpTo_11 : decode cX2_lastEndUpTo 11 = .ok (.if_icmp .ge 32, 3) := by decide +kernel
theorem dX2_lastEndUpTo_14 : decode cX2_lastEndUpTo 14 = .ok (.aload_n 0, 1) := by decide +kernel
theorem dX2_lastEndUpTo_15 : decode cX2_lastEndUpTo 15 = .ok (.getfield 22, 3) := by decide +kernel
theorem dX2_lastEndUpTo_18 : decode cX2_lastEndUpTo 18 = .ok (.iload 4, 2) := by decide +kernel
theorem dX2_lastEndUpTo_20 : decode cX2_lastEndUpTo 20 = .ok (.iaload, 1) := by decide +kernel
theorem dX2_lastEndUpTo_21 : decode cX2_lastEndUpTo 21 = .ok (.iload_n 1, 1) := by decide +kernel
theorem dX2_lastEndUpTo_22 : decode cX2_lastEndUpTo 22 = .ok (.if_icmp .gt 15, 3) := by decide +kernel
theorem dX2_lastEndUpTo_25 : decode cX2_lastEndUpTo 25 = .ok (.iload_n 3, 1) := by decide +kernel
theorem dX2_lastEndUpTo_26 : decode cX2_lastEndUpTo 26 = .ok (.aload_n 0, 1) := by decide +kernel
theorem dX2_lastEndUpTo_27 : decode cX2_lastEndUpTo 27 = .ok (.getfield 22, 3) := by decide +kernel
theorem dX2_lastEndUpTo_30 : decode cX2_lastEndUpTo 30 = .ok (.iload 4, 2) := by decide +kernel
theorem dX2_lastEndUpTo_32 : decode cX2_lastEndUpTo 32 = .ok (.iaload, 1) := by decide +kernel
theorem dX2_lastEndUpTo_33 : decode cX2_lastEndUpTo 33 = .ok (.invokestatic 33, 3) := by decide +kernel
theorem dX2_lastEndUpTo_36 : decode cX2_lastEndUpTo 36 = .ok (.istore_n 3, 1) := by decide +kernel
theorem dX2_lastEndUpTo_37 : decode cX2_lastEndUpTo 37 = .ok (.iinc 4 1, 3) := by decide +kernel
theorem dX2_lastEndUpTo_40 : decode cX2_lastEndUpTo 40 = .ok (.goto (-35), 3) := by decide +kernel
theorem dX2_lastEndUpTo_43 : decode cX2_lastEndUpTo 43 = .ok (.iload_n 3, 1) := by decide +kernel
theorem dX2_lastEndUpTo_44 : decode cX2_lastEndUpTo 44 = .ok (.ireturn, 1) := by decide +kernel
theorem dX2_room_0 : decode cX2_room 0 = .ok (.iload_n 2, 1) := by decide +kernel
theorem dX2_room_1 : decode cX2_room 1 = .ok (.istore 4, 2) := by decide +kernel
theorem dX2_room_3 : decode cX2_room 3 = .ok (.iconst 0, 1) := by decide +kernel
theorem dX2_room_4 : decode cX2_room 4 = .ok (.istore 5, 2) := by decide +kernel
theorem dX2_room_6 : decode cX2_room 6 = .ok (.iload 5, 2) := by decide +kernel
theorem dX2_room_8 : decode cX2_room 8 = .ok (.aload_n 0, 1) := by decide +kernel
theorem dX2_room_9 : decode cX2_room 9 = .ok (.getfield 9, 3) := by decide +kernel
theorem dX2_room_12 : decode cX2_room 12 = .ok (.if_icmp .ge 42, 3) := by decide +kernel
theorem dX2_room_15 : decode cX2_room 15 = .ok (.aload_n 0, 1) := by decide +kernel
theorem dX2_room_16 : decode cX2_room 16 = .ok (.getfield 22, 3) := by decide +kernel
theorem dX2_room_19 : decode cX2_room 19 = .ok (.iload 5, 2) := by decide +kernel
theorem dX2_room_21 : decode cX2_room 21 = .ok (.iaload, 1) := by decide +kernel
theorem dX2_room_22 : decode cX2_room 22 = .ok (.iload_n 1, 1) := by decide +kernel
theorem dX2_room_23 : decode cX2_room 23 = .ok (.if_icmp .le 25, 3) := by decide +kernel
theorem dX2_room_26 : decode cX2_room 26 = .ok (.iload 4, 2) := by decide +kernel
theorem dX2_room_28 : decode cX2_room 28 = .ok (.iload_n 3, 1) := by decide +kernel
theorem dX2_room_29 : decode cX2_room 29 = .ok (.ifCond .eq 13, 3) := by decide +kernel
theorem dX2_room_32 : decode cX2_room 32 = .ok (.aload_n 0, 1) := by decide +kernel
theorem dX2_room_33 : decode cX2_room 33 = .ok (.getfield 19, 3) := by decide +kernel
theorem dX2_room_36 : decode cX2_room 36 = .ok (.iload 5, 2) := by decide +kernel
theorem dX2_room_38 : decode cX2_room 38 = .ok (.iaload, 1) := by decide +kernel
theorem dX2_room_39 : decode cX2_room 39 = .ok (.goto 4, 3) := by decide +kernel
theorem dX2_room_42 : decode cX2_room 42 = .ok (.iload_n 1, 1) := by decide +kernel
theorem dX2_room_43 : decode cX2_room 43 = .ok (.invokestatic 39, 3) := by decide +kernel
theorem dX2_room_46 : decode cX2_room 46 = .ok (.istore 4, 2) := by decide +kernel
theorem dX2_room_48 : decode cX2_room 48 = .ok (.iinc 5 1, 3) := by decide +kernel
theorem dX2_room_51 : decode cX2_room 51 = .ok (.goto (-45), 3) := by decide +kernel
theorem dX2_room_54 : decode cX2_room 54 = .ok (.iconst 0, 1) := by decide +kernel
theorem dX2_room_55 : decode cX2_room 55 = .ok (.iload 4, 2) := by decide +kernel
theorem dX2_room_57 : decode cX2_room 57 = .ok (.iload_n 1, 1) := by decide +kernel
theorem dX2_room_58 : decode cX2_room 58 = .ok (.isub, 1) := by decide +kernel
theorem dX2_room_59 : decode cX2_room 59 = .ok (.invokestatic 33, 3) := by decide +kernel
theorem dX2_room_62 : decode cX2_room 62 = .ok (.ireturn, 1) := by decide +kernel
set_option maxRecDepth 20000 in
theorem ggX2_isFree_X2_room : GoodIn wsX2_isFree wsX2_room := goodIn_r _ [5, 6, 7, 8, 9, 10, 11, 12, 13, 14, 15, 16, 17, 18, 19] (by decide +kernel) (by decide +kernel)
set_option maxRecDepth 20000 in
theorem gX2_isFree_X2_room : GoodIn wsX2_isFree (wsV RX2 42 RX2 yX2_room wsX2_room) := goodIn_app (goodIn_of _ (by decide +kernel)) ggX2_isFree_X2_room
theorem dX2_isFree_0 : decode cX2_isFree 0 = .ok (.aload_n 0, 1) := by decide +kernel
theorem dX2_isFree_1 : decode cX2_isFree 1 = .ok (.iload_n 1, 1) := by decide +kernel
theorem dX2_isFree_2 : decode cX2_isFree 2 = .ok (.iload_n 2, 1) := by decide +kernel
theorem dX2_isFree_3 : decode cX2_isFree 3 = .ok (.iload_n 3, 1) := by decide +kernel
theorem dX2_isFree_4 : decode cX2_isFree 4 = .ok (.invokevirtual 42, 3) := by decide +kernel
theorem dX2_isFree_7 : decode cX2_isFree 7 = .ok (.iload_n 2, 1) := by decide +kernel
theorem dX2_isFree_8 : decode cX2_isFree 8 = .ok (.iload_n 1, 1) := by decide +kernel
theorem dX2_isFree_9 : decode cX2_isFree 9 = .ok (.isub, 1) := by decide +kernel
theorem dX2_isFree_10 : decode cX2_isFree 10 = .ok (.if_icmp .ne 7, 3) := by decide +kernel
theorem dX2_isFree_13 : decode cX2_isFree 13 = .ok (.iconst 1, 1) := by decide +kernel
theorem dX2_isFree_14 : decode cX2_isFree 14 = .ok (.goto 4, 3) := by decide +kernel
theorem dX2_isFree_17 : decode cX2_isFree 17 = .ok (.iconst 0, 1) := by decide +kernel
theorem dX2_isFree_18 : decode cX2_isFree 18 = .ok (.ireturn, 1) := by decide +kernel
set_option maxRecDepth 20000 in
theorem ggX2_pieceBegin_X2_room : GoodIn wsX2_pieceBegin wsX2_room := goodIn_r _ [7, 1, 2, 8, 9, 10, 11, 12, 13, 14, 15, 16, 17, 18, 19] (by decide +kernel) (by decide +kernel)
set_option maxRecDepth 20000 in
theorem gX2_pieceBegin_X2_room : GoodIn wsX2_pieceBegin (wsV RX2 42 RX2 yX2_room wsX2_room) := goodIn_app (goodIn_of _ (by decide +kernel)) ggX2_pieceBegin_X2_room
theorem dX2_pieceBegin_0 : decode cX2_pieceBegin 0 = .ok (.iload_n 1, 1) := by decide +kernel
theorem dX2_pieceBegin_1 : decode cX2_pieceBegin 1 = .ok (.istore 4, 2) := by decide +kernel
theorem dX2_pieceBegin_3 : decode cX2_pieceBegin 3 = .ok (.aload_n 0, 1) := by decide +kernel
theorem dX2_pieceBegin_4 : decode cX2_pieceBegin 4 = .ok (.iload_n 1, 1) := by decide +kernel
theorem dX2_pieceBegin_5 : decode cX2_pieceBegin 5 = .ok (.iload_n 2, 1) := by decide +kernel
theorem dX2_pieceBegin_6 : decode cX2_pieceBegin 6 = .ok (.iload_n 3, 1) := by decide +kernel
theorem dX2_pieceBegin_7 : decode cX2_pieceBegin 7 = .ok (.invokevirtual 42, 3) := by decide +kernel
theorem dX2_pieceBegin_10 : decode cX2_pieceBegin 10 = .ok (.istore 5, 2) := by decide +kernel
theorem dX2_pieceBegin_12 : decode cX2_pieceBegin 12 = .ok (.iconst 0, 1) := by decide +kernel
theorem dX2_pieceBegin_13 : decode cX2_pieceBegin 13 = .ok (.istore 6, 2) := by decide +kernel
theorem dX2_pieceBegin_15 : decode cX2_pieceBegin 15 = .ok (.iload 6, 2) := by decide +kernel
theorem dX2_pieceBegin_17 : decode cX2_pieceBegin 17 = .ok (.aload_n 0, 1) := by decide +kernel
theorem dX2_pieceBegin_18 : decode cX2_pieceBegin 18 = .ok (.getfield 9, 3) := by decide +kernel
theorem dX2_pieceBegin_21 : decode cX2_pieceBegin 21 = .ok (.if_icmp .ge 59, 3) := by decide +kernel
theorem dX2_pieceBegin_24 : decode cX2_pieceBegin 24 = .ok (.aload_n 0, 1) := by decide +kernel
theorem dX2_pieceBegin_25 : decode cX2_pieceBegin 25 = .ok (.getfield 22, 3) := by decide +kernel
theorem dX2_pieceBegin_28 : decode cX2_pieceBegin 28 = .ok (.iload 6, 2) := by decide +kernel
theorem dX2_pieceBegin_30 : decode cX2_pieceBegin 30 = .ok (.iaload, 1) := by decide +kernel
theorem dX2_pieceBegin_31 : decode cX2_pieceBegin 31 = .ok (.iload_n 1, 1) := by decide +kernel
theorem dX2_pieceBegin_32 : decode cX2_pieceBegin 32 = .ok (.if_icmp .le 19, 3) := by decide +kernel
theorem dX2_pieceBegin_35 : decode cX2_pieceBegin 35 = .ok (.aload_n 0, 1) := by decide +kernel
theorem dX2_pieceBegin_36 : decode cX2_pieceBegin 36 = .ok (.aload_n 0, 1) := by decide +kernel
theorem dX2_pieceBegin_37 : decode cX2_pieceBegin 37 = .ok (.getfield 22, 3) := by decide +kernel
theorem dX2_pieceBegin_40 : decode cX2_pieceBegin 40 = .ok (.iload 6, 2) := by decide +kernel
theorem dX2_pieceBegin_42 : decode cX2_pieceBegin 42 = .ok (.iaload, 1) := by decide +kernel
theorem dX2_pieceBegin_43 : decode cX2_pieceBegin 43 = .ok (.iload_n 2, 1) := by decide +kernel
theorem dX2_pieceBegin_44 : decode cX2_pieceBegin 44 = .ok (.iload_n 3, 1) := by decide +kernel
theorem dX2_pieceBegin_45 : decode cX2_pieceBegin 45 = .ok (.invokevirtual 42, 3) := by decide +kernel
theorem dX2_pieceBegin_48 : decode cX2_pieceBegin 48 = .ok (.goto 4, 3) := by decide +kernel
theorem dX2_pieceBegin_51 : decode cX2_pieceBegin 51 = .ok (.iconst 0, 1) := by decide +kernel
theorem dX2_pieceBegin_52 : decode cX2_pieceBegin 52 = .ok (.istore 7, 2) := by decide +kernel
theorem dX2_pieceBegin_54 : decode cX2_pieceBegin 54 = .ok (.iload 7, 2) := by decide +kernel
theorem dX2_pieceBegin_56 : decode cX2_pieceBegin 56 = .ok (.iload 5, 2) := by decide +kernel
theorem dX2_pieceBegin_58 : decode cX2_pieceBegin 58 = .ok (.if_icmp .le 16, 3) := by decide +kernel
theorem dX2_pieceBegin_61 : decode cX2_pieceBegin 61 = .ok (.aload_n 0, 1) := by decide +kernel
theorem dX2_pieceBegin_62 : decode cX2_pieceBegin 62 = .ok (.getfield 22, 3) := by decide +kernel
theorem dX2_pieceBegin_65 : decode cX2_pieceBegin 65 = .ok (.iload 6, 2) := by decide +kernel
theorem dX2_pieceBegin_67 : decode cX2_pieceBegin 67 = .ok (.iaload, 1) := by decide +kernel
theorem dX2_pieceBegin_68 : decode cX2_pieceBegin 68 = .ok (.istore 4, 2) := by decide +kernel
theorem dX2_pieceBegin_70 : decode cX2_pieceBegin 70 = .ok (.iload 7, 2) := by decide +kernel
theorem dX2_pieceBegin_72 : decode cX2_pieceBegin 72 = .ok (.istore 5, 2) := by decide +kernel
theorem dX2_pieceBegin_74 : decode cX2_pieceBegin 74 = .ok (.iinc 6 1, 3) := by decide +kernel
theorem dX2_pieceBegin_77 : decode cX2_pieceBegin 77 = .ok (.goto (-62), 3) := by decide +kernel
theorem dX2_pieceBegin_80 : decode cX2_pieceBegin 80 = .ok (.iload 4, 2) := by decide +kernel
theorem dX2_pieceBegin_82 : decode cX2_pieceBegin 82 = .ok (.ireturn, 1) := by decide +kernel
theorem dX2_bookedTicks_0 : decode cX2_bookedTicks 0 = .ok (.iconst 0, 1) := by decide +kernel
theorem dX2_bookedTicks_1 : decode cX2_bookedTicks 1 = .ok (.istore_n 3, 1) := by decide +kernel
theorem dX2_bookedTicks_2 : decode cX2_bookedTicks 2 = .ok (.iconst 0, 1) := by decide +kernel
theorem dX2_bookedTicks_3 : decode cX2_bookedTicks 3 = .ok (.istore 4, 2) := by decide +kernel
theorem dX2_bookedTicks_5 : decode cX2_bookedTicks 5 = .ok (.iload 4, 2) := by decide +kernel
theorem dX2_bookedTicks_7 : decode cX2_bookedTicks 7 = .ok (.aload_n 0, 1) := by decide +kernel
theorem dX2_bookedTicks_8 : decode cX2_bookedTicks 8 = .ok (.getfield 9, 3) := by decide +kernel
theorem dX2_bookedTicks_11 : decode cX2_bookedTicks 11 = .ok (.if_icmp .ge 39, 3) := by decide +kernel
theorem dX2_bookedTicks_14 : decode cX2_bookedTicks 14 = .ok (.iload_n 3, 1) := by decide +kernel
theorem dX2_bookedTicks_15 : decode cX2_bookedTicks 15 = .ok (.iconst 0, 1) := by decide +kernel
theorem dX2_bookedTicks_16 : decode cX2_bookedTicks 16 = .ok (.iload_n 2, 1) := by decide +kernel
theorem dX2_bookedTicks_17 : decode cX2_bookedTicks 17 = .ok (.aload_n 0, 1) := by decide +kernel
theorem dX2_bookedTicks_18 : decode cX2_bookedTicks 18 = .ok (.getfield 22, 3) := by decide +kernel
theorem dX2_bookedTicks_21 : decode cX2_bookedTicks 21 = .ok (.iload 4, 2) := by decide +kernel
theorem dX2_bookedTicks_23 : decode cX2_bookedTicks 23 = .ok (.iaload, 1) := by decide +kernel
theorem dX2_bookedTicks_24 : decode cX2_bookedTicks 24 = .ok (.invokestatic 39, 3) := by decide +kernel
theorem dX2_bookedTicks_27 : decode cX2_bookedTicks 27 = .ok (.iload_n 1, 1) := by decide +kernel
theorem dX2_bookedTicks_28 : decode cX2_bookedTicks 28 = .ok (.aload_n 0, 1) := by decide +kernel
theorem dX2_bookedTicks_29 : decode cX2_bookedTicks 29 = .ok (.getfield 19, 3) := by decide +kernel
theorem dX2_bookedTicks_32 : decode cX2_bookedTicks 32 = .ok (.iload 4, 2) := by decide +kernel
theorem dX2_bookedTicks_34 : decode cX2_bookedTicks 34 = .ok (.iaload, 1) := by decide +kernel
theorem dX2_bookedTicks_35 : decode cX2_bookedTicks 35 = .ok (.invokestatic 33, 3) := by decide +kernel
theorem dX2_bookedTicks_38 : decode cX2_bookedTicks 38 = .ok (.isub, 1) := by decide +kernel
theorem dX2_bookedTicks_39 : decode cX2_bookedTicks 39 = .ok (.invokestatic 33, 3) := by decide +kernel
theorem dX2_bookedTicks_42 : decode cX2_bookedTicks 42 = .ok (.iadd, 1) := by decide +kernel
theorem dX2_bookedTicks_43 : decode cX2_bookedTicks 43 = .ok (.istore_n 3, 1) := by decide +kernel
theorem dX2_bookedTicks_44 : decode cX2_bookedTicks 44 = .ok (.iinc 4 1, 3) := by decide +kernel
theorem dX2_bookedTicks_47 : decode cX2_bookedTicks 47 = .ok (.goto (-42), 3) := by decide +kernel
theorem dX2_bookedTicks_50 : decode cX2_bookedTicks 50 = .ok (.iload_n 3, 1) := by decide +kernel
theorem dX2_bookedTicks_51 : decode cX2_bookedTicks 51 = .ok (.ireturn, 1) := by decide +kernel
theorem dX2_firstFree_0 : decode cX2_firstFree 0 = .ok (.iload_n 1, 1) := by decide +kernel
theorem dX2_firstFree_1 : decode cX2_firstFree 1 = .ok (.istore_n 3, 1) := by decide +kernel
theorem dX2_firstFree_2 : decode cX2_firstFree 2 = .ok (.iconst 0, 1) := by decide +kernel
theorem dX2_firstFree_3 : decode cX2_firstFree 3 = .ok (.istore 4, 2) := by decide +kernel
theorem dX2_firstFree_5 : decode cX2_firstFree 5 = .ok (.iload 4, 2) := by decide +kernel
theorem dX2_firstFree_7 : decode cX2_firstFree 7 = .ok (.aload_n 0, 1) := by decide +kernel
theorem dX2_firstFree_8 : decode cX2_firstFree 8 = .ok (.getfield 9, 3) := by decide +kernel
theorem dX2_firstFree_11 : decode cX2_firstFree 11 = .ok (.if_icmp .ge 41, 3) := by decide +kernel
theorem dX2_firstFree_14 : decode cX2_firstFree 14 = .ok (.aload_n 0, 1) := by decide +kernel
theorem dX2_firstFree_15 : decode cX2_firstFree 15 = .ok (.getfield 19, 3) := by decide +kernel
theorem dX2_firstFree_18 : decode cX2_firstFree 18 = .ok (.iload 4, 2) := by decide +kernel
theorem dX2_firstFree_20 : decode cX2_firstFree 20 = .ok (.iaload, 1) := by decide +kernel
theorem dX2_firstFree_21 : decode cX2_firstFree 21 = .ok (.iload_n 3, 1) := by decide +kernel
theorem dX2_firstFree_22 : decode cX2_firstFree 22 = .ok (.iload_n 2, 1) := by decide +kernel
theorem dX2_firstFree_23 : decode cX2_firstFree 23 = .ok (.iadd, 1) := by decide +kernel
theorem dX2_firstFree_24 : decode cX2_firstFree 24 = .ok (.if_icmp .ge 22, 3) := by decide +kernel
theorem dX2_firstFree_27 : decode cX2_firstFree 27 = .ok (.aload_n 0, 1) := by decide +kernel
theorem dX2_firstFree_28 : decode cX2_firstFree 28 = .ok (.getfield 22, 3) := by decide +kernel
theorem dX2_firstFree_31 : decode cX2_firstFree 31 = .ok (.iload 4, 2) := by decide +kernel
theorem dX2_firstFree_33 : decode cX2_firstFree 33 = .ok (.iaload, 1) := by decide +kernel
theorem dX2_firstFree_34 : decode cX2_firstFree 34 = .ok (.iload_n 3, 1) := by decide +kernel
theorem dX2_firstFree_35 : decode cX2_firstFree 35 = .ok (.if_icmp .le 11, 3) := by decide +kernel
theorem dX2_firstFree_38 : decode cX2_firstFree 38 = .ok (.aload_n 0, 1) := by decide +kernel
theorem dX2_firstFree_39 : decode cX2_firstFree 39 = .ok (.getfield 22, 3) := by decide +kernel
theorem dX2_firstFree_42 : decode cX2_firstFree 42 = .ok (.iload 4, 2) := by decide +kernel
theorem dX2_firstFree_44 : decode cX2_firstFree 44 = .ok (.iaload, 1) := by decide +kernel
theorem dX2_firstFree_45 : decode cX2_firstFree 45 = .ok (.istore_n 3, 1) := by decide +kernel
theorem dX2_firstFree_46 : decode cX2_firstFree 46 = .ok (.iinc 4 1, 3) := by decide +kernel
theorem dX2_firstFree_49 : decode cX2_firstFree 49 = .ok (.goto (-44), 3) := by decide +kernel
theorem dX2_firstFree_52 : decode cX2_firstFree 52 = .ok (.iload_n 3, 1) := by decide +kernel
theorem dX2_firstFree_53 : decode cX2_firstFree 53 = .ok (.ireturn, 1) := by decide +kernel
set_option maxRecDepth 20000 in
theorem ggX2_voidBefore_X2_has : GoodIn wsX2_voidBefore wsX2_has := goodIn_r _ [10, 11, 12, 13, 14, 15, 16, 17, 18] (by decide +kernel) (by decide +kernel)
set_option maxRecDepth 20000 in
theorem gX2_voidBefore_X2_has : GoodIn wsX2_voidBefore (wsV RX2 29 RX2 yX2_has wsX2_has) := goodIn_app (goodIn_of _ (by decide +kernel)) ggX2_voidBefore_X2_has
theorem dX2_voidBefore_0 : decode cX2_voidBefore 0 = .ok (.aload_n 0, 1) := by decide +kernel
theorem dX2_voidBefore_1 : decode cX2_voidBefore 1 = .ok (.iload_n 1, 1) := by decide +kernel
theorem dX2_voidBefore_2 : decode cX2_voidBefore 2 = .ok (.iconst 1, 1) := by decide +kernel
theorem dX2_voidBefore_3 : decode cX2_voidBefore 3 = .ok (.isub, 1) := by decide +kernel
theorem dX2_voidBefore_4 : decode cX2_voidBefore 4 = .ok (.invokevirtual 29, 3) := by decide +kernel
theorem dX2_voidBefore_7 : decode cX2_voidBefore 7 = .ok (.ifCond .eq 18, 3) := by decide +kernel
theorem dX2_voidBefore_10 : decode cX2_voidBefore 10 = .ok (.iload_n 2, 1) := by decide +kernel
theorem dX2_voidBefore_11 : decode cX2_voidBefore 11 = .ok (.aload_n 0, 1) := by decide +kernel
theorem dX2_voidBefore_12 : decode cX2_voidBefore 12 = .ok (.getfield 22, 3) := by decide +kernel
theorem dX2_voidBefore_15 : decode cX2_voidBefore 15 = .ok (.iload_n 1, 1) := by decide +kernel
theorem dX2_voidBefore_16 : decode cX2_voidBefore 16 = .ok (.iconst 1, 1) := by decide +kernel
theorem dX2_voidBefore_17 : decode cX2_voidBefore 17 = .ok (.isub, 1) := by decide +kernel
theorem dX2_voidBefore_18 : decode cX2_voidBefore 18 = .ok (.iaload, 1) := by decide +kernel
theorem dX2_voidBefore_19 : decode cX2_voidBefore 19 = .ok (.invokestatic 33, 3) := by decide +kernel
theorem dX2_voidBefore_22 : decode cX2_voidBefore 22 = .ok (.goto 4, 3) := by decide +kernel
theorem dX2_voidBefore_25 : decode cX2_voidBefore 25 = .ok (.iload_n 2, 1) := by decide +kernel
theorem dX2_voidBefore_26 : decode cX2_voidBefore 26 = .ok (.ireturn, 1) := by decide +kernel
set_option maxRecDepth 20000 in
theorem ggX2_closingOfVoid_X2_voidBefore : GoodIn wsX2_closingOfVoid wsX2_voidBefore := goodIn_r _ [7, 8, 9, 10, 11, 12, 13, 14, 15, 6, 16, 1, 17, 18, 19, 20, 21, 22, 23] (by decide +kernel) (by decide +kernel)
set_option maxRecDepth 20000 in
theorem gX2_closingOfVoid_X2_voidBefore : GoodIn wsX2_closingOfVoid (wsV RX2 46 RX2 yX2_voidBefore wsX2_voidBefore) := goodIn_app (goodIn_of _ (by decide +kernel)) ggX2_closingOfVoid_X2_voidBefore
theorem dX2_closingOfVoid_0 : decode cX2_closingOfVoid 0 = .ok (.iconst 0, 1) := by decide +kernel
theorem dX2_closingOfVoid_1 : decode cX2_closingOfVoid 1 = .ok (.istore_n 3, 1) := by decide +kernel
theorem dX2_closingOfVoid_2 : decode cX2_closingOfVoid 2 = .ok (.iconst 0, 1) := by decide +kernel
theorem dX2_closingOfVoid_3 : decode cX2_closingOfVoid 3 = .ok (.istore 4, 2) := by decide +kernel
theorem dX2_closingOfVoid_5 : decode cX2_closingOfVoid 5 = .ok (.iload 4, 2) := by decide +kernel
theorem dX2_closingOfVoid_7 : decode cX2_closingOfVoid 7 = .ok (.aload_n 0, 1) := by decide +kernel
theorem dX2_closingOfVoid_8 : decode cX2_closingOfVoid 8 = .ok (.getfield 9, 3) := by decide +kernel
theorem dX2_closingOfVoid_11 : decode cX2_closingOfVoid 11 = .ok (.if_icmp .ge 37, 3) := by decide +kernel
theorem dX2_closingOfVoid_14 : decode cX2_closingOfVoid 14 = .ok (.aload_n 0, 1) := by decide +kernel
theorem dX2_closingOfVoid_15 : decode cX2_closingOfVoid 15 = .ok (.getfield 19, 3) := by decide +kernel
theorem dX2_closingOfVoid_18 : decode cX2_closingOfVoid 18 = .ok (.iload 4, 2) := by decide +kernel
theorem dX2_closingOfVoid_20 : decode cX2_closingOfVoid 20 = .ok (.iaload, 1) := by decide +kernel
theorem dX2_closingOfVoid_21 : decode cX2_closingOfVoid 21 = .ok (.aload_n 0, 1) := by decide +kernel
theorem dX2_closingOfVoid_22 : decode cX2_closingOfVoid 22 = .ok (.iload 4, 2) := by decide +kernel
theorem dX2_closingOfVoid_24 : decode cX2_closingOfVoid 24 = .ok (.iload_n 2, 1) := by decide +kernel
theorem dX2_closingOfVoid_25 : decode cX2_closingOfVoid 25 = .ok (.invokevirtual 46, 3) := by decide +kernel
theorem dX2_closingOfVoid_28 : decode cX2_closingOfVoid 28 = .ok (.if_icmp .le 14, 3) := by decide +kernel
theorem dX2_closingOfVoid_31 : decode cX2_closingOfVoid 31 = .ok (.iload_n 3, 1) := by decide +kernel
theorem dX2_closingOfVoid_32 : decode cX2_closingOfVoid 32 = .ok (.iload_n 1, 1) := by decide +kernel
theorem dX2_closingOfVoid_33 : decode cX2_closingOfVoid 33 = .ok (.if_icmp .ne 6, 3) := by decide +kernel
theorem dX2_closingOfVoid_36 : decode cX2_closingOfVoid 36 = .ok (.iload 4, 2) := by decide +kernel
theorem dX2_closingOfVoid_38 : decode cX2_closingOfVoid 38 = .ok (.ireturn, 1) := by decide +kernel
theorem dX2_closingOfVoid_39 : decode cX2_closingOfVoid 39 = .ok (.iinc 3 1, 3) := by decide +kernel
theorem dX2_closingOfVoid_42 : decode cX2_closingOfVoid 42 = .ok (.iinc 4 1, 3) := by decide +kernel
theorem dX2_closingOfVoid_45 : decode cX2_closingOfVoid 45 = .ok (.goto (-40), 3) := by decide +kernel
theorem dX2_closingOfVoid_48 : decode cX2_closingOfVoid 48 = .ok (.bipush (-6), 2) := by decide +kernel
theorem dX2_closingOfVoid_50 : decode cX2_closingOfVoid 50 = .ok (.ireturn, 1) := by decide +kernel
