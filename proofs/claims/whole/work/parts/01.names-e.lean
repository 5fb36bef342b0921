theorem dX4_tell_179 : decode cX4_tell 179 = .ok (.invokestatic 20, 3) := by decide +kernel
theorem dX4_tell_182 : decode cX4_tell 182 = .ok (.aload_n 0, 1) := by decide +kernel
theorem dX4_tell_183 : decode cX4_tell 183 = .ok (.getfield 65, 3) := by decide +kernel
theorem dX4_tell_186 : decode cX4_tell 186 = .ok (.iastore, 1) := by decide +kernel
theorem dX4_tell_187 : decode cX4_tell 187 = .ok (.aload_n 0, 1) := by decide +kernel
theorem dX4_tell_188 : decode cX4_tell 188 = .ok (.getfield 7, 3) := by decide +kernel
theorem dX4_tell_191 : decode cX4_tell 191 = .ok (.iload 7, 2) := by decide +kernel
theorem dX4_tell_193 : decode cX4_tell 193 = .ok (.bipush 9, 2) := by decide +kernel
theorem dX4_tell_195 : decode cX4_tell 195 = .ok (.invokestatic 20, 3) := by decide +kernel
theorem dX4_tell_198 : decode cX4_tell 198 = .ok (.aload_n 0, 1) := by decide +kernel
theorem dX4_tell_199 : decode cX4_tell 199 = .ok (.getfield 68, 3) := by decide +kernel
theorem dX4_tell_202 : decode cX4_tell 202 = .ok (.iastore, 1) := by decide +kernel
theorem dX4_tell_203 : decode cX4_tell 203 = .ok (.aload_n 0, 1) := by decide +kernel
theorem dX4_tell_204 : decode cX4_tell 204 = .ok (.getfield 7, 3) := by decide +kernel
theorem dX4_tell_207 : decode cX4_tell 207 = .ok (.iload 7, 2) := by decide +kernel
theorem dX4_tell_209 : decode cX4_tell 209 = .ok (.bipush 10, 2) := by decide +kernel
theorem dX4_tell_211 : decode cX4_tell 211 = .ok (.invokestatic 20, 3) := by decide +kernel
theorem dX4_tell_214 : decode cX4_tell 214 = .ok (.aload_n 0, 1) := by decide +kernel
theorem dX4_tell_215 : decode cX4_tell 215 = .ok (.getfield 71, 3) := by decide +kernel
theorem dX4_tell_218 : decode cX4_tell 218 = .ok (.iastore, 1) := by decide +kernel
theorem dX4_tell_219 : decode cX4_tell 219 = .ok (.aload_n 0, 1) := by decide +kernel
theorem dX4_tell_220 : decode cX4_tell 220 = .ok (.getfield 7, 3) := by decide +kernel
theorem dX4_tell_223 : decode cX4_tell 223 = .ok (.bipush 10, 2) := by decide +kernel
theorem dX4_tell_225 : decode cX4_tell 225 = .ok (.dup2, 1) := by decide +kernel
theorem dX4_tell_226 : decode cX4_tell 226 = .ok (.iaload, 1) := by decide +kernel
theorem dX4_tell_227 : decode cX4_tell 227 = .ok (.iconst 1, 1) := by decide +kernel
theorem dX4_tell_228 : decode cX4_tell 228 = .ok (.iadd, 1) := by decide +kernel
theorem dX4_tell_229 : decode cX4_tell 229 = .ok (.iastore, 1) := by decide +kernel
theorem dX4_tell_230 : decode cX4_tell 230 = .ok (.iload 7, 2) := by decide +kernel
theorem dX4_tell_232 : decode cX4_tell 232 = .ok (.ireturn, 1) := by decide +kernel
set_option maxRecDepth 20000 in
theorem ggX4_would_X4_refusal : GoodIn wsX4_would wsX4_refusal := goodIn_r _ [5, 6, 7, 4, 8, 9, 10, 11, 12, 13, 14] (by decide +kernel) (by decide +kernel)
set_option maxRecDepth 20000 in
theorem gX4_would_X4_refusal : GoodIn wsX4_would (va_wsS RX4 102 yX4_refusal wsX4_refusal) := goodIn_app (goodIn_of _ (by decide +kernel)) ggX4_would_X4_refusal
set_option maxRecDepth 20000 in
theorem ggX4_would_X4_comes : GoodIn wsX4_would wsX4_comes := goodIn_r _ [18, 19, 89, 90, 91, 92, 93, 94, 95, 96] (by decide +kernel) (by decide +kernel)
set_option maxRecDepth 20000 in
theorem gX4_would_X4_comes : GoodIn wsX4_would (wsV RX4 106 RX4 yX4_comes wsX4_comes) := goodIn_app (goodIn_of _ (by decide +kernel)) ggX4_would_X4_comes
set_option maxRecDepth 20000 in
theorem ggX4_would_X4_place : GoodIn wsX4_would wsX4_place := goodIn_r _ [23, 19, 24, 25, 26, 4, 27, 28, 29, 30, 31, 32, 33, 34, 35, 36, 37, 38, 39, 40, 41, 42, 43, 44, 45, 46, 47, 48, 49, 50, 51, 52, 53, 54, 55, 56, 57, 58, 59, 60, 61, 62, 63, 64, 1, 65, 66, 67, 68, 69, 70, 71, 72, 73, 74, 75, 76, 77, 78, 79, 80, 81, 82, 83, 84, 85, 86, 87, 88, 89, 90, 91, 92, 93, 94, 95, 96] (by decide +kernel) (by decide +kernel)
set_option maxRecDepth 20000 in
theorem gX4_would_X4_place : GoodIn wsX4_would (wsV RX4 109 RX4 yX4_place wsX4_place) := goodIn_app (goodIn_of _ (by decide +kernel)) ggX4_would_X4_place
theorem dX4_would_0 : decode cX4_would 0 = .ok (.iload_n 1, 1) := by decide +kernel
theorem dX4_would_1 : decode cX4_would 1 = .ok (.iload_n 2, 1) := by decide +kernel
theorem dX4_would_2 : decode cX4_would 2 = .ok (.iload_n 3, 1) := by decide +kernel
theorem dX4_would_3 : decode cX4_would 3 = .ok (.iload 4, 2) := by decide +kernel
theorem dX4_would_5 : decode cX4_would 5 = .ok (.iload 5, 2) := by decide +kernel
theorem dX4_would_7 : decode cX4_would 7 = .ok (.invokestatic 102, 3) := by decide +kernel
theorem dX4_would_10 : decode cX4_would 10 = .ok (.istore 6, 2) := by decide +kernel
theorem dX4_would_12 : decode cX4_would 12 = .ok (.iload 6, 2) := by decide +kernel
theorem dX4_would_14 : decode cX4_would 14 = .ok (.ifCond .eq 6, 3) := by decide +kernel
theorem dX4_would_17 : decode cX4_would 17 = .ok (.iload 6, 2) := by decide +kernel
theorem dX4_would_19 : decode cX4_would 19 = .ok (.ireturn, 1) := by decide +kernel
theorem dX4_would_20 : decode cX4_would 20 = .ok (.aload_n 0, 1) := by decide +kernel
theorem dX4_would_21 : decode cX4_would 21 = .ok (.iload_n 1, 1) := by decide +kernel
theorem dX4_would_22 : decode cX4_would 22 = .ok (.iload_n 2, 1) := by decide +kernel
theorem dX4_would_23 : decode cX4_would 23 = .ok (.aload_n 0, 1) := by decide +kernel
theorem dX4_would_24 : decode cX4_would 24 = .ok (.iload_n 3, 1) := by decide +kernel
theorem dX4_would_25 : decode cX4_would 25 = .ok (.iload 4, 2) := by decide +kernel
theorem dX4_would_27 : decode cX4_would 27 = .ok (.invokevirtual 106, 3) := by decide +kernel
theorem dX4_would_30 : decode cX4_would 30 = .ok (.iload 5, 2) := by decide +kernel
theorem dX4_would_32 : decode cX4_would 32 = .ok (.invokevirtual 109, 3) := by decide +kernel
theorem dX4_would_35 : decode cX4_would 35 = .ok (.aload_n 0, 1) := by decide +kernel
theorem dX4_would_36 : decode cX4_would 36 = .ok (.getfield 58, 3) := by decide +kernel
theorem dX4_would_39 : decode cX4_would 39 = .ok (.ireturn, 1) := by decide +kernel
set_option maxRecDepth 20000 in
theorem ggX4_back_X4_isBurst : GoodIn wsX4_back wsX4_isBurst := goodIn_r _ [6, 1, 7, 8, 5, 9, 17, 18, 19, 20, 21, 22, 23, 24] (by decide +kernel) (by decide +kernel)
set_option maxRecDepth 20000 in
theorem gX4_back_X4_isBurst : GoodIn wsX4_back (wsV RX4 112 RX4 yX4_isBurst wsX4_isBurst) := goodIn_app (goodIn_of _ (by decide +kernel)) ggX4_back_X4_isBurst
set_option maxRecDepth 20000 in
theorem ggX4_back_X4_of : GoodIn wsX4_back wsX4_of := goodIn_r _ [13, 1, 14, 15, 5, 16, 17, 18, 19, 20, 21, 22, 23, 24] (by decide +kernel) (by decide +kernel)
set_option maxRecDepth 20000 in
theorem gX4_back_X4_of : GoodIn wsX4_back (wsV RX4 28 RX4 yX4_of wsX4_of) := goodIn_app (goodIn_of _ (by decide +kernel)) ggX4_back_X4_of
set_option maxRecDepth 20000 in
theorem ggX4_back_X4_at : GoodIn wsX4_back wsX4_at := goodIn_r _ [16] (by decide +kernel) (by decide +kernel)
set_option maxRecDepth 20000 in
theorem gX4_back_X4_at : GoodIn wsX4_back (va_wsS RX4 20 yX4_at wsX4_at) := goodIn_app (goodIn_of _ (by decide +kernel)) ggX4_back_X4_at
theorem dX4_back_0 : decode cX4_back 0 = .ok (.aload_n 0, 1) := by decide +kernel
theorem dX4_back_1 : decode cX4_back 1 = .ok (.iload_n 1, 1) := by decide +kernel
theorem dX4_back_2 : decode cX4_back 2 = .ok (.invokevirtual 112, 3) := by decide +kernel
theorem dX4_back_5 : decode cX4_back 5 = .ok (.ifCond .ne 5, 3) := by decide +kernel
theorem dX4_back_8 : decode cX4_back 8 = .ok (.iconst (-1), 1) := by decide +kernel
theorem dX4_back_9 : decode cX4_back 9 = .ok (.ireturn, 1) := by decide +kernel
theorem dX4_back_10 : decode cX4_back 10 = .ok (.aload_n 0, 1) := by decide +kernel
theorem dX4_back_11 : decode cX4_back 11 = .ok (.iload_n 1, 1) := by decide +kernel
theorem dX4_back_12 : decode cX4_back 12 = .ok (.iconst 5, 1) := by decide +kernel
theorem dX4_back_13 : decode cX4_back 13 = .ok (.invokevirtual 28, 3) := by decide +kernel
theorem dX4_back_16 : decode cX4_back 16 = .ok (.aload_n 0, 1) := by decide +kernel
theorem dX4_back_17 : decode cX4_back 17 = .ok (.getfield 7, 3) := by decide +kernel
theorem dX4_back_20 : decode cX4_back 20 = .ok (.bipush 9, 2) := by decide +kernel
theorem dX4_back_22 : decode cX4_back 22 = .ok (.iaload, 1) := by decide +kernel
theorem dX4_back_23 : decode cX4_back 23 = .ok (.if_icmp .gt 6, 3) := by decide +kernel
theorem dX4_back_26 : decode cX4_back 26 = .ok (.bipush (-3), 2) := by decide +kernel
theorem dX4_back_28 : decode cX4_back 28 = .ok (.ireturn, 1) := by decide +kernel
theorem dX4_back_29 : decode cX4_back 29 = .ok (.aload_n 0, 1) := by decide +kernel
theorem dX4_back_30 : decode cX4_back 30 = .ok (.iload_n 1, 1) := by decide +kernel
theorem dX4_back_31 : decode cX4_back 31 = .ok (.bipush 6, 2) := by decide +kernel
theorem dX4_back_33 : decode cX4_back 33 = .ok (.invokevirtual 28, 3) := by decide +kernel
theorem dX4_back_36 : decode cX4_back 36 = .ok (.iconst 4, 1) := by decide +kernel
theorem dX4_back_37 : decode cX4_back 37 = .ok (.if_icmp .ne 6, 3) := by decide +kernel
theorem dX4_back_40 : decode cX4_back 40 = .ok (.bipush (-5), 2) := by decide +kernel
theorem dX4_back_42 : decode cX4_back 42 = .ok (.ireturn, 1) := by decide +kernel
theorem dX4_back_43 : decode cX4_back 43 = .ok (.aload_n 0, 1) := by decide +kernel
theorem dX4_back_44 : decode cX4_back 44 = .ok (.iload_n 1, 1) := by decide +kernel
theorem dX4_back_45 : decode cX4_back 45 = .ok (.bipush 9, 2) := by decide +kernel
theorem dX4_back_47 : decode cX4_back 47 = .ok (.invokevirtual 28, 3) := by decide +kernel
theorem dX4_back_50 : decode cX4_back 50 = .ok (.istore_n 2, 1) := by decide +kernel
theorem dX4_back_51 : decode cX4_back 51 = .ok (.aload_n 0, 1) := by decide +kernel
theorem dX4_back_52 : decode cX4_back 52 = .ok (.getfield 7, 3) := by decide +kernel
theorem dX4_back_55 : decode cX4_back 55 = .ok (.iload_n 1, 1) := by decide +kernel
theorem dX4_back_56 : decode cX4_back 56 = .ok (.bipush 6, 2) := by decide +kernel
theorem dX4_back_58 : decode cX4_back 58 = .ok (.invokestatic 20, 3) := by decide +kernel
theorem dX4_back_61 : decode cX4_back 61 = .ok (.iconst 4, 1) := by decide +kernel
theorem dX4_back_62 : decode cX4_back 62 = .ok (.iastore, 1) := by decide +kernel
theorem dX4_back_63 : decode cX4_back 63 = .ok (.aload_n 0, 1) := by decide +kernel
theorem dX4_back_64 : decode cX4_back 64 = .ok (.getfield 7, 3) := by decide +kernel
theorem dX4_back_67 : decode cX4_back 67 = .ok (.iload_n 1, 1) := by decide +kernel
theorem dX4_back_68 : decode cX4_back 68 = .ok (.bipush 7, 2) := by decide +kernel
theorem dX4_back_70 : decode cX4_back 70 = .ok (.invokestatic 20, 3) := by decide +kernel
theorem dX4_back_73 : decode cX4_back 73 = .ok (.bipush (-6), 2) := by decide +kernel
theorem dX4_back_75 : decode cX4_back 75 = .ok (.iastore, 1) := by decide +kernel
theorem dX4_back_76 : decode cX4_back 76 = .ok (.aload_n 0, 1) := by decide +kernel
theorem dX4_back_77 : decode cX4_back 77 = .ok (.getfield 7, 3) := by decide +kernel
theorem dX4_back_80 : decode cX4_back 80 = .ok (.iload_n 1, 1) := by decide +kernel
theorem dX4_back_81 : decode cX4_back 81 = .ok (.bipush 8, 2) := by decide +kernel
theorem dX4_back_83 : decode cX4_back 83 = .ok (.invokestatic 20, 3) := by decide +kernel
theorem dX4_back_86 : decode cX4_back 86 = .ok (.bipush (-6), 2) := by decide +kernel
theorem dX4_back_88 : decode cX4_back 88 = .ok (.iastore, 1) := by decide +kernel
theorem dX4_back_89 : decode cX4_back 89 = .ok (.aload_n 0, 1) := by decide +kernel
theorem dX4_back_90 : decode cX4_back 90 = .ok (.getfield 7, 3) := by decide +kernel
theorem dX4_back_93 : decode cX4_back 93 = .ok (.iload_n 1, 1) := by decide +kernel
theorem dX4_back_94 : decode cX4_back 94 = .ok (.bipush 9, 2) := by decide +kernel
theorem dX4_back_96 : decode cX4_back 96 = .ok (.invokestatic 20, 3) := by decide +kernel
theorem dX4_back_99 : decode cX4_back 99 = .ok (.iconst 0, 1) := by decide +kernel
theorem dX4_back_100 : decode cX4_back 100 = .ok (.iastore, 1) := by decide +kernel
theorem dX4_back_101 : decode cX4_back 101 = .ok (.aload_n 0, 1) := by decide +kernel
theorem dX4_back_102 : decode cX4_back 102 = .ok (.getfield 7, 3) := by decide +kernel
theorem dX4_back_105 : decode cX4_back 105 = .ok (.iload_n 1, 1) := by decide +kernel
theorem dX4_back_106 : decode cX4_back 106 = .ok (.bipush 10, 2) := by decide +kernel
theorem dX4_back_108 : decode cX4_back 108 = .ok (.invokestatic 20, 3) := by decide +kernel
theorem dX4_back_111 : decode cX4_back 111 = .ok (.bipush (-6), 2) := by decide +kernel
theorem dX4_back_113 : decode cX4_back 113 = .ok (.iastore, 1) := by decide +kernel
theorem dX4_back_114 : decode cX4_back 114 = .ok (.iload_n 2, 1) := by decide +kernel
theorem dX4_back_115 : decode cX4_back 115 = .ok (.ireturn, 1) := by decide +kernel
set_option maxRecDepth 20000 in
theorem ggX4_burst_X4_isBurst : GoodIn wsX4_burst wsX4_isBurst := goodIn_r _ [5, 6, 7, 8, 4, 9, 17, 18, 19, 20, 21, 22, 23, 24] (by decide +kernel) (by decide +kernel)
set_option maxRecDepth 20000 in
theorem gX4_burst_X4_isBurst : GoodIn wsX4_burst (wsV RX4 112 RX4 yX4_isBurst wsX4_isBurst) := goodIn_app (goodIn_of _ (by decide +kernel)) ggX4_burst_X4_isBurst
set_option maxRecDepth 20000 in
theorem ggX4_burst_X4_in : GoodIn wsX4_burst wsX4_in := goodIn_r _ [9] (by decide +kernel) (by decide +kernel)
set_option maxRecDepth 20000 in
theorem gX4_burst_X4_in : GoodIn wsX4_burst (va_wsS RX4 24 yX4_in wsX4_in) := goodIn_app (goodIn_of _ (by decide +kernel)) ggX4_burst_X4_in
set_option maxRecDepth 20000 in
theorem ggX4_burst_X4_of : GoodIn wsX4_burst wsX4_of := goodIn_r _ [13, 6, 14, 15, 4, 16, 17, 18, 19, 20, 21, 22, 23, 24] (by decide +kernel) (by decide +kernel)
set_option maxRecDepth 20000 in
theorem gX4_burst_X4_of : GoodIn wsX4_burst (wsV RX4 28 RX4 yX4_of wsX4_of) := goodIn_app (goodIn_of _ (by decide +kernel)) ggX4_burst_X4_of
theorem dX4_burst_0 : decode cX4_burst 0 = .ok (.aload_n 0, 1) := by decide +kernel
theorem dX4_burst_1 : decode cX4_burst 1 = .ok (.iload_n 1, 1) := by decide +kernel
theorem dX4_burst_2 : decode cX4_burst 2 = .ok (.invokevirtual 112, 3) := by decide +kernel
theorem dX4_burst_5 : decode cX4_burst 5 = .ok (.ifCond .ne 5, 3) := by decide +kernel
theorem dX4_burst_8 : decode cX4_burst 8 = .ok (.iconst (-1), 1) := by decide +kernel
theorem dX4_burst_9 : decode cX4_burst 9 = .ok (.ireturn, 1) := by decide +kernel
theorem dX4_burst_10 : decode cX4_burst 10 = .ok (.iload_n 2, 1) := by decide +kernel
theorem dX4_burst_11 : decode cX4_burst 11 = .ok (.iconst 0, 1) := by decide +kernel
theorem dX4_burst_12 : decode cX4_burst 12 = .ok (.bipush 10, 2) := by decide +kernel
theorem dX4_burst_14 : decode cX4_burst 14 = .ok (.invokestatic 24, 3) := by decide +kernel
theorem dX4_burst_17 : decode cX4_burst 17 = .ok (.ifCond .eq 12, 3) := by decide +kernel
theorem dX4_burst_20 : decode cX4_burst 20 = .ok (.aload_n 0, 1) := by decide +kernel
theorem dX4_burst_21 : decode cX4_burst 21 = .ok (.iload_n 1, 1) := by decide +kernel
theorem dX4_burst_22 : decode cX4_burst 22 = .ok (.iload_n 2, 1) := by decide +kernel
theorem dX4_burst_23 : decode cX4_burst 23 = .ok (.invokevirtual 28, 3) := by decide +kernel
theorem dX4_burst_26 : decode cX4_burst 26 = .ok (.goto 5, 3) := by decide +kernel
theorem dX4_burst_29 : decode cX4_burst 29 = .ok (.bipush (-2), 2) := by decide +kernel
theorem dX4_burst_31 : decode cX4_burst 31 = .ok (.ireturn, 1) := by decide +kernel
set_option maxRecDepth 20000 in
theorem ggX4_bookingAt_X4_isOnLine : GoodIn wsX4_bookingAt wsX4_isOnLine := goodIn_r _ [6, 7, 8, 9, 5, 10, 1, 11, 12, 13, 22, 23, 24, 25, 26, 27, 28, 29] (by decide +kernel) (by decide +kernel)
set_option maxRecDepth 20000 in
theorem gX4_bookingAt_X4_isOnLine : GoodIn wsX4_bookingAt (wsV RX4 31 RX4 yX4_isOnLine wsX4_isOnLine) := goodIn_app (goodIn_of _ (by decide +kernel)) ggX4_bookingAt_X4_isOnLine
set_option maxRecDepth 20000 in
theorem ggX4_bookingAt_X4_isOn : GoodIn wsX4_bookingAt wsX4_isOn := goodIn_r _ [17, 7, 8, 9, 5, 10, 1, 11, 12, 13, 22, 23, 24, 25, 26, 27, 28, 29] (by decide +kernel) (by decide +kernel)
set_option maxRecDepth 20000 in
theorem gX4_bookingAt_X4_isOn : GoodIn wsX4_bookingAt (wsV RX4 35 RX4 yX4_isOn wsX4_isOn) := goodIn_app (goodIn_of _ (by decide +kernel)) ggX4_bookingAt_X4_isOn
set_option maxRecDepth 20000 in
theorem ggX4_bookingAt_X4_beginOf : GoodIn wsX4_bookingAt wsX4_beginOf := goodIn_r _ [21, 7, 8, 9, 5, 10, 1, 11, 12, 13, 22, 23, 24, 25, 26, 27, 28, 29] (by decide +kernel) (by decide +kernel)
set_option maxRecDepth 20000 in
theorem gX4_bookingAt_X4_beginOf : GoodIn wsX4_bookingAt (wsV RX4 115 RX4 yX4_beginOf wsX4_beginOf) := goodIn_app (goodIn_of _ (by decide +kernel)) ggX4_bookingAt_X4_beginOf
theorem dX4_bookingAt_0 : decode cX4_bookingAt 0 = .ok (.bipush (-6), 2) := by decide +kernel
theorem dX4_bookingAt_2 : decode cX4_bookingAt 2 = .ok (.istore 4, 2) := by decide +kernel
theorem dX4_bookingAt_4 : decode cX4_bookingAt 4 = .ok (.iconst 0, 1) := by decide +kernel
theorem dX4_bookingAt_5 : decode cX4_bookingAt 5 = .ok (.istore 5, 2) := by decide +kernel
theorem dX4_bookingAt_7 : decode cX4_bookingAt 7 = .ok (.iload 5, 2) := by decide +kernel
theorem dX4_bookingAt_9 : decode cX4_bookingAt 9 = .ok (.iload_n 3, 1) := by decide +kernel
theorem dX4_bookingAt_10 : decode cX4_bookingAt 10 = .ok (.if_icmp .gt 123, 3) := by decide +kernel
theorem dX4_bookingAt_13 : decode cX4_bookingAt 13 = .ok (.bipush (-6), 2) := by decide +kernel
theorem dX4_bookingAt_15 : decode cX4_bookingAt 15 = .ok (.istore 6, 2) := by decide +kernel
theorem dX4_bookingAt_17 : decode cX4_bookingAt 17 = .ok (.iconst 0, 1) := by decide +kernel
theorem dX4_bookingAt_18 : decode cX4_bookingAt 18 = .ok (.istore 7, 2) := by decide +kernel
theorem dX4_bookingAt_20 : decode cX4_bookingAt 20 = .ok (.iload 7, 2) := by decide +kernel
theorem dX4_bookingAt_22 : decode cX4_bookingAt 22 = .ok (.aload_n 0, 1) := by decide +kernel
theorem dX4_bookingAt_23 : decode cX4_bookingAt 23 = .ok (.getfield 7, 3) := by decide +kernel
theorem dX4_bookingAt_26 : decode cX4_bookingAt 26 = .ok (.bipush 10, 2) := by decide +kernel
theorem dX4_bookingAt_28 : decode cX4_bookingAt 28 = .ok (.iaload, 1) := by decide +kernel
theorem dX4_bookingAt_29 : decode cX4_bookingAt 29 = .ok (.if_icmp .ge 86, 3) := by decide +kernel
theorem dX4_bookingAt_32 : decode cX4_bookingAt 32 = .ok (.iload_n 1, 1) := by decide +kernel
theorem dX4_bookingAt_33 : decode cX4_bookingAt 33 = .ok (.ifCond .ge 13, 3) := by decide +kernel
theorem dX4_bookingAt_36 : decode cX4_bookingAt 36 = .ok (.aload_n 0, 1) := by decide +kernel
theorem dX4_bookingAt_37 : decode cX4_bookingAt 37 = .ok (.iload 7, 2) := by decide +kernel
theorem dX4_bookingAt_39 : decode cX4_bookingAt 39 = .ok (.iload_n 2, 1) := by decide +kernel
theorem dX4_bookingAt_40 : decode cX4_bookingAt 40 = .ok (.invokevirtual 31, 3) := by decide +kernel
theorem dX4_bookingAt_43 : decode cX4_bookingAt 43 = .ok (.goto 11, 3) := by decide +kernel
theorem dX4_bookingAt_46 : decode cX4_bookingAt 46 = .ok (.aload_n 0, 1) := by decide +kernel
theorem dX4_bookingAt_47 : decode cX4_bookingAt 47 = .ok (.iload 7, 2) := by decide +kernel
theorem dX4_bookingAt_49 : decode cX4_bookingAt 49 = .ok (.iload_n 1, 1) := by decide +kernel
theorem dX4_bookingAt_50 : decode cX4_bookingAt 50 = .ok (.iload_n 2, 1) := by decide +kernel
theorem dX4_bookingAt_51 : decode cX4_bookingAt 51 = .ok (.invokevirtual 35, 3) := by decide +kernel
theorem dX4_bookingAt_54 : decode cX4_bookingAt 54 = .ok (.istore 8, 2) := by decide +kernel
theorem dX4_bookingAt_56 : decode cX4_bookingAt 56 = .ok (.iload 8, 2) := by decide +kernel
theorem dX4_bookingAt_58 : decode cX4_bookingAt 58 = .ok (.ifCond .eq 51, 3) := by decide +kernel
theorem dX4_bookingAt_61 : decode cX4_bookingAt 61 = .ok (.iload 4, 2) := by decide +kernel
theorem dX4_bookingAt_63 : decode cX4_bookingAt 63 = .ok (.ifCond .lt 20, 3) := by decide +kernel
theorem dX4_bookingAt_66 : decode cX4_bookingAt 66 = .ok (.aload_n 0, 1) := by decide +kernel
theorem dX4_bookingAt_67 : decode cX4_bookingAt 67 = .ok (.iload_n 1, 1) := by decide +kernel
theorem dX4_bookingAt_68 : decode cX4_bookingAt 68 = .ok (.iload 7, 2) := by decide +kernel
theorem dX4_bookingAt_70 : decode cX4_bookingAt 70 = .ok (.invokevirtual 115, 3) := by decide +kernel
theorem dX4_bookingAt_73 : decode cX4_bookingAt 73 = .ok (.aload_n 0, 1) := by decide +kernel
theorem dX4_bookingAt_74 : decode cX4_bookingAt 74 = .ok (.iload_n 1, 1) := by decide +kernel
theorem dX4_bookingAt_75 : decode cX4_bookingAt 75 = .ok (.iload 4, 2) := by decide +kernel
theorem dX4_bookingAt_77 : decode cX4_bookingAt 77 = .ok (.invokevirtual 115, 3) := by decide +kernel
theorem dX4_bookingAt_80 : decode cX4_bookingAt 80 = .ok (.if_icmp .le 29, 3) := by decide +kernel
theorem dX4_bookingAt_83 : decode cX4_bookingAt 83 = .ok (.iload 6, 2) := by decide +kernel
theorem dX4_bookingAt_85 : decode cX4_bookingAt 85 = .ok (.ifCond .lt 20, 3) := by decide +kernel
theorem dX4_bookingAt_88 : decode cX4_bookingAt 88 = .ok (.aload_n 0, 1) := by decide +kernel
theorem dX4_bookingAt_89 : decode cX4_bookingAt 89 = .ok (.iload_n 1, 1) := by decide +kernel
theorem dX4_bookingAt_90 : decode cX4_bookingAt 90 = .ok (.iload 7, 2) := by decide +kernel
theorem dX4_bookingAt_92 : decode cX4_bookingAt 92 = .ok (.invokevirtual 115, 3) := by decide +kernel
theorem dX4_bookingAt_95 : decode cX4_bookingAt 95 = .ok (.aload_n 0, 1) := by decide +kernel
theorem dX4_bookingAt_96 : decode cX4_bookingAt 96 = .ok (.iload_n 1, 1) := by decide +kernel
theorem dX4_bookingAt_97 : decode cX4_bookingAt 97 = .ok (.iload 6, 2) := by decide +kernel
theorem dX4_bookingAt_99 : decode cX4_bookingAt 99 = .ok (.invokevirtual 115, 3) := by decide +kernel
theorem dX4_bookingAt_102 : decode cX4_bookingAt 102 = .ok (.if_icmp .ge 7, 3) := by decide +kernel
theorem dX4_bookingAt_105 : decode cX4_bookingAt 105 = .ok (.iload 7, 2) := by decide +kernel
theorem dX4_bookingAt_107 : decode cX4_bookingAt 107 = .ok (.istore 6, 2) := by decide +kernel
theorem dX4_bookingAt_109 : decode cX4_bookingAt 109 = .ok (.iinc 7 1, 3) := by decide +kernel
theorem dX4_bookingAt_112 : decode cX4_bookingAt 112 = .ok (.goto (-92), 3) := by decide +kernel
theorem dX4_bookingAt_115 : decode cX4_bookingAt 115 = .ok (.iload 6, 2) := by decide +kernel
theorem dX4_bookingAt_117 : decode cX4_bookingAt 117 = .ok (.ifCond .ge 6, 3) := by decide +kernel
theorem dX4_bookingAt_120 : decode cX4_bookingAt 120 = .ok (.bipush (-6), 2) := by decide +kernel
theorem dX4_bookingAt_122 : decode cX4_bookingAt 122 = .ok (.ireturn, 1) := by decide +kernel
theorem dX4_bookingAt_123 : decode cX4_bookingAt 123 = .ok (.iload 6, 2) := by decide +kernel
theorem dX4_bookingAt_125 : decode cX4_bookingAt 125 = .ok (.istore 4, 2) := by decide +kernel
theorem dX4_bookingAt_127 : decode cX4_bookingAt 127 = .ok (.iinc 5 1, 3) := by decide +kernel
theorem dX4_bookingAt_130 : decode cX4_bookingAt 130 = .ok (.goto (-123), 3) := by decide +kernel
theorem dX4_bookingAt_133 : decode cX4_bookingAt 133 = .ok (.iload 4, 2) := by decide +kernel
theorem dX4_bookingAt_135 : decode cX4_bookingAt 135 = .ok (.ireturn, 1) := by decide +kernel
set_option maxRecDepth 20000 in
theorem ggX4_beginOf_X4_of : GoodIn wsX4_beginOf wsX4_of := goodIn_r _ [5, 6, 7, 8, 4, 9, 10, 11, 12, 13, 14, 15, 16, 17] (by decide +kernel) (by decide +kernel)
set_option maxRecDepth 20000 in
theorem gX4_beginOf_X4_of : GoodIn wsX4_beginOf (wsV RX4 28 RX4 yX4_of wsX4_of) := goodIn_app (goodIn_of _ (by decide +kernel)) ggX4_beginOf_X4_of
theorem dX4_beginOf_0 : decode cX4_beginOf 0 = .ok (.iload_n 1, 1) := by decide +kernel
theorem dX4_beginOf_1 : decode cX4_beginOf 1 = .ok (.ifCond .ge 12, 3) := by decide +kernel
theorem dX4_beginOf_4 : decode cX4_beginOf 4 = .ok (.aload_n 0, 1) := by decide +kernel
theorem dX4_beginOf_5 : decode cX4_beginOf 5 = .ok (.iload_n 2, 1) := by decide +kernel
theorem dX4_beginOf_6 : decode cX4_beginOf 6 = .ok (.iconst 5, 1) := by decide +kernel
theorem dX4_beginOf_7 : decode cX4_beginOf 7 = .ok (.invokevirtual 28, 3) := by decide +kernel
theorem dX4_beginOf_10 : decode cX4_beginOf 10 = .ok (.goto 10, 3) := by decide +kernel
theorem dX4_beginOf_13 : decode cX4_beginOf 13 = .ok (.aload_n 0, 1) := by decide +kernel
theorem dX4_beginOf_14 : decode cX4_beginOf 14 = .ok (.iload_n 2, 1) := by decide +kernel
theorem dX4_beginOf_15 : decode cX4_beginOf 15 = .ok (.bipush 8, 2) := by decide +kernel
theorem dX4_beginOf_17 : decode cX4_beginOf 17 = .ok (.invokevirtual 28, 3) := by decide +kernel
theorem dX4_beginOf_20 : decode cX4_beginOf 20 = .ok (.ireturn, 1) := by decide +kernel
set_option maxRecDepth 20000 in
theorem ggX4_booking_X4_isOut : GoodIn wsX4_booking wsX4_isOut := goodIn_r _ [4, 5, 6, 3, 7] (by decide +kernel) (by decide +kernel)
set_option maxRecDepth 20000 in
theorem gX4_booking_X4_isOut : GoodIn wsX4_booking (va_wsS RX4 95 yX4_isOut wsX4_isOut) := goodIn_app (goodIn_of _ (by decide +kernel)) ggX4_booking_X4_isOut
set_option maxRecDepth 20000 in
theorem ggX4_booking_X4_isColour : GoodIn wsX4_booking wsX4_isColour := goodIn_r _ [10, 5, 6, 3, 7] (by decide +kernel) (by decide +kernel)
set_option maxRecDepth 20000 in
theorem gX4_booking_X4_isColour : GoodIn wsX4_booking (va_wsS RX4 99 yX4_isColour wsX4_isColour) := goodIn_app (goodIn_of _ (by decide +kernel)) ggX4_booking_X4_isColour
set_option maxRecDepth 20000 in
theorem ggX4_booking_X4_in : GoodIn wsX4_booking wsX4_in := goodIn_r _ [7] (by decide +kernel) (by decide +kernel)
set_option maxRecDepth 20000 in
theorem gX4_booking_X4_in : GoodIn wsX4_booking (va_wsS RX4 24 yX4_in wsX4_in) := goodIn_app (goodIn_of _ (by decide +kernel)) ggX4_booking_X4_in
set_option maxRecDepth 20000 in
theorem ggX4_booking_X4_bookingAt : GoodIn wsX4_booking wsX4_bookingAt := goodIn_r _ [14, 15, 16, 17, 18, 3, 19, 20, 21, 22, 23, 24, 25, 26, 27, 28, 29, 30, 31, 32, 33, 34, 35, 36, 37, 38, 39, 40, 41, 42] (by decide +kernel) (by decide +kernel)
set_option maxRecDepth 20000 in
theorem gX4_booking_X4_bookingAt : GoodIn wsX4_booking (wsV RX4 118 RX4 yX4_bookingAt wsX4_bookingAt) := goodIn_app (goodIn_of _ (by decide +kernel)) ggX4_booking_X4_bookingAt
set_option maxRecDepth 20000 in
theorem ggX4_booking_X4_of : GoodIn wsX4_booking wsX4_of := goodIn_r _ [23, 15, 24, 25, 3, 26, 35, 36, 37, 38, 39, 40, 41, 42] (by decide +kernel) (by decide +kernel)
set_option maxRecDepth 20000 in
theorem gX4_booking_X4_of : GoodIn wsX4_booking (wsV RX4 28 RX4 yX4_of wsX4_of) := goodIn_app (goodIn_of _ (by decide +kernel)) ggX4_booking_X4_of
theorem dX4_booking_0 : decode cX4_booking 0 = .ok (.iload_n 1, 1) := by decide +kernel
theorem dX4_booking_1 : decode cX4_booking 1 = .ok (.invokestatic 95, 3) := by decide +kernel
theorem dX4_booking_4 : decode cX4_booking 4 = .ok (.ifCond .eq 10, 3) := by decide +kernel
theorem dX4_booking_7 : decode cX4_booking 7 = .ok (.iload_n 2, 1) := by decide +kernel
theorem dX4_booking_8 : decode cX4_booking 8 = .ok (.invokestatic 99, 3) := by decide +kernel
theorem dX4_booking_11 : decode cX4_booking 11 = .ok (.ifCond .ne 5, 3) := by decide +kernel
theorem dX4_booking_14 : decode cX4_booking 14 = .ok (.iconst (-1), 1) := by decide +kernel
theorem dX4_booking_15 : decode cX4_booking 15 = .ok (.ireturn, 1) := by decide +kernel
theorem dX4_booking_16 : decode cX4_booking 16 = .ok (.iload 4, 2) := by decide +kernel
theorem dX4_booking_18 : decode cX4_booking 18 = .ok (.iconst 0, 1) := by decide +kernel
theorem dX4_booking_19 : decode cX4_booking 19 = .ok (.iconst 2, 1) := by decide +kernel
theorem dX4_booking_20 : decode cX4_booking 20 = .ok (.invokestatic 24, 3) := by decide +kernel
theorem dX4_booking_23 : decode cX4_booking 23 = .ok (.ifCond .ne 6, 3) := by decide +kernel
theorem dX4_booking_26 : decode cX4_booking 26 = .ok (.bipush (-2), 2) := by decide +kernel
theorem dX4_booking_28 : decode cX4_booking 28 = .ok (.ireturn, 1) := by decide +kernel
theorem dX4_booking_29 : decode cX4_booking 29 = .ok (.aload_n 0, 1) := by decide +kernel
theorem dX4_booking_30 : decode cX4_booking 30 = .ok (.iload_n 1, 1) := by decide +kernel
theorem dX4_booking_31 : decode cX4_booking 31 = .ok (.iload_n 2, 1) := by decide +kernel
theorem dX4_booking_32 : decode cX4_booking 32 = .ok (.iload_n 3, 1) := by decide +kernel
theorem dX4_booking_33 : decode cX4_booking 33 = .ok (.invokevirtual 118, 3) := by decide +kernel
theorem dX4_booking_36 : decode cX4_booking 36 = .ok (.istore 5, 2) := by decide +kernel
theorem dX4_booking_38 : decode cX4_booking 38 = .ok (.iload 5, 2) := by decide +kernel
theorem dX4_booking_40 : decode cX4_booking 40 = .ok (.ifCond .ge 8, 3) := by decide +kernel
theorem dX4_booking_43 : decode cX4_booking 43 = .ok (.bipush (-6), 2) := by decide +kernel
theorem dX4_booking_45 : decode cX4_booking 45 = .ok (.goto 38, 3) := by decide +kernel
theorem dX4_booking_48 : decode cX4_booking 48 = .ok (.iload 4, 2) := by decide +kernel
theorem dX4_booking_50 : decode cX4_booking 50 = .ok (.ifCond .ne 14, 3) := by decide +kernel
theorem dX4_booking_53 : decode cX4_booking 53 = .ok (.aload_n 0, 1) := by decide +kernel
theorem dX4_booking_54 : decode cX4_booking 54 = .ok (.iload 5, 2) := by decide +kernel
theorem dX4_booking_56 : decode cX4_booking 56 = .ok (.bipush 8, 2) := by decide +kernel
theorem dX4_booking_58 : decode cX4_booking 58 = .ok (.invokevirtual 28, 3) := by decide +kernel
theorem dX4_booking_61 : decode cX4_booking 61 = .ok (.goto 22, 3) := by decide +kernel
theorem dX4_booking_64 : decode cX4_booking 64 = .ok (.iload 4, 2) := by decide +kernel
theorem dX4_booking_66 : decode cX4_booking 66 = .ok (.iconst 1, 1) := by decide +kernel
theorem dX4_booking_67 : decode cX4_booking 67 = .ok (.if_icmp .ne 14, 3) := by decide +kernel
theorem dX4_booking_70 : decode cX4_booking 70 = .ok (.aload_n 0, 1) := by decide +kernel
theorem dX4_booking_71 : decode cX4_booking 71 = .ok (.iload 5, 2) := by decide +kernel
theorem dX4_booking_73 : decode cX4_booking 73 = .ok (.bipush 9, 2) := by decide +kernel
theorem dX4_booking_75 : decode cX4_booking 75 = .ok (.invokevirtual 28, 3) := by decide +kernel
theorem dX4_booking_78 : decode cX4_booking 78 = .ok (.goto 5, 3) := by decide +kernel
theorem dX4_booking_81 : decode cX4_booking 81 = .ok (.iload 5, 2) := by decide +kernel
theorem dX4_booking_83 : decode cX4_booking 83 = .ok (.ireturn, 1) := by decide +kernel
set_option maxRecDepth 20000 in
theorem ggX4_held_X4_in : GoodIn wsX4_held wsX4_in := goodIn_r _ [4] (by decide +kernel) (by decide +kernel)
set_option maxRecDepth 20000 in
theorem gX4_held_X4_in : GoodIn wsX4_held (va_wsS RX4 24 yX4_in wsX4_in) := goodIn_app (goodIn_of _ (by decide +kernel)) ggX4_held_X4_in
set_option maxRecDepth 20000 in
theorem ggX4_held_X4_bookingAt : GoodIn wsX4_held wsX4_bookingAt := goodIn_r _ [8, 9, 10, 11, 12, 3, 13, 14, 15, 16, 17, 18, 19, 20, 21, 22, 23, 24, 25, 26, 27, 28, 29, 30, 31, 32, 33, 34, 35, 36] (by decide +kernel) (by decide +kernel)
set_option maxRecDepth 20000 in
theorem gX4_held_X4_bookingAt : GoodIn wsX4_held (wsV RX4 118 RX4 yX4_bookingAt wsX4_bookingAt) := goodIn_app (goodIn_of _ (by decide +kernel)) ggX4_held_X4_bookingAt
set_option maxRecDepth 20000 in
theorem ggX4_held_X4_of : GoodIn wsX4_held wsX4_of := goodIn_r _ [17, 9, 18, 19, 3, 20, 29, 30, 31, 32, 33, 34, 35, 36] (by decide +kernel) (by decide +kernel)
set_option maxRecDepth 20000 in
theorem gX4_held_X4_of : GoodIn wsX4_held (wsV RX4 28 RX4 yX4_of wsX4_of) := goodIn_app (goodIn_of _ (by decide +kernel)) ggX4_held_X4_of
theorem dX4_held_0 : decode cX4_held 0 = .ok (.iload_n 1, 1) := by decide +kernel
theorem dX4_held_1 : decode cX4_held 1 = .ok (.iconst 0, 1) := by decide +kernel
theorem dX4_held_2 : decode cX4_held 2 = .ok (.iconst 2, 1) := by decide +kernel
theorem dX4_held_3 : decode cX4_held 3 = .ok (.invokestatic 24, 3) := by decide +kernel
theorem dX4_held_6 : decode cX4_held 6 = .ok (.ifCond .ne 5, 3) := by decide +kernel
theorem dX4_held_9 : decode cX4_held 9 = .ok (.iconst (-1), 1) := by decide +kernel
theorem dX4_held_10 : decode cX4_held 10 = .ok (.ireturn, 1) := by decide +kernel
theorem dX4_held_11 : decode cX4_held 11 = .ok (.iload_n 3, 1) := by decide +kernel
theorem dX4_held_12 : decode cX4_held 12 = .ok (.iconst 0, 1) := by decide +kernel
theorem dX4_held_13 : decode cX4_held 13 = .ok (.iconst 2, 1) := by decide +kernel
theorem dX4_held_14 : decode cX4_held 14 = .ok (.invokestatic 24, 3) := by decide +kernel
theorem dX4_held_17 : decode cX4_held 17 = .ok (.ifCond .ne 6, 3) := by decide +kernel
theorem dX4_held_20 : decode cX4_held 20 = .ok (.bipush (-2), 2) := by decide +kernel
theorem dX4_held_22 : decode cX4_held 22 = .ok (.ireturn, 1) := by decide +kernel
theorem dX4_held_23 : decode cX4_held 23 = .ok (.aload_n 0, 1) := by decide +kernel
theorem dX4_held_24 : decode cX4_held 24 = .ok (.bipush (-6), 2) := by decide +kernel
theorem dX4_held_26 : decode cX4_held 26 = .ok (.iload_n 1, 1) := by decide +kernel
theorem dX4_held_27 : decode cX4_held 27 = .ok (.iload_n 2, 1) := by decide +kernel
theorem dX4_held_28 : decode cX4_held 28 = .ok (.invokevirtual 118, 3) := by decide +kernel
theorem dX4_held_31 : decode cX4_held 31 = .ok (.istore 4, 2) := by decide +kernel
theorem dX4_held_33 : decode cX4_held 33 = .ok (.iload 4, 2) := by decide +kernel
theorem dX4_held_35 : decode cX4_held 35 = .ok (.ifCond .ge 8, 3) := by decide +kernel
theorem dX4_held_38 : decode cX4_held 38 = .ok (.bipush (-6), 2) := by decide +kernel
theorem dX4_held_40 : decode cX4_held 40 = .ok (.goto 34, 3) := by decide +kernel
theorem dX4_held_43 : decode cX4_held 43 = .ok (.iload_n 3, 1) := by decide +kernel
theorem dX4_held_44 : decode cX4_held 44 = .ok (.ifCond .ne 13, 3) := by decide +kernel
theorem dX4_held_47 : decode cX4_held 47 = .ok (.aload_n 0, 1) := by decide +kernel
theorem dX4_held_48 : decode cX4_held 48 = .ok (.iload 4, 2) := by decide +kernel
theorem dX4_held_50 : decode cX4_held 50 = .ok (.iconst 5, 1) := by decide +kernel
theorem dX4_held_51 : decode cX4_held 51 = .ok (.invokevirtual 28, 3) := by decide +kernel
theorem dX4_held_54 : decode cX4_held 54 = .ok (.goto 20, 3) := by decide +kernel
theorem dX4_held_57 : decode cX4_held 57 = .ok (.iload_n 3, 1) := by decide +kernel
theorem dX4_held_58 : decode cX4_held 58 = .ok (.iconst 1, 1) := by decide +kernel
theorem dX4_held_59 : decode cX4_held 59 = .ok (.if_icmp .ne 13, 3) := by decide +kernel
theorem dX4_held_62 : decode cX4_held 62 = .ok (.aload_n 0, 1) := by decide +kernel
theorem dX4_held_63 : decode cX4_held 63 = .ok (.iload 4, 2) := by decide +kernel
theorem dX4_held_65 : decode cX4_held 65 = .ok (.iconst 4, 1) := by decide +kernel
theorem dX4_held_66 : decode cX4_held 66 = .ok (.invokevirtual 28, 3) := by decide +kernel
theorem dX4_held_69 : decode cX4_held 69 = .ok (.goto 5, 3) := by decide +kernel
theorem dX4_held_72 : decode cX4_held 72 = .ok (.iload 4, 2) := by decide +kernel
theorem dX4_held_74 : decode cX4_held 74 = .ok (.ireturn, 1) := by decide +kernel
set_option maxRecDepth 20000 in
theorem ggX4_isSpan_X4_in : GoodIn wsX4_isSpan wsX4_in := goodIn_r _ [4] (by decide +kernel) (by decide +kernel)
set_option maxRecDepth 20000 in
theorem gX4_isSpan_X4_in : GoodIn wsX4_isSpan (va_wsS RX4 24 yX4_in wsX4_in) := goodIn_app (goodIn_of _ (by decide +kernel)) ggX4_isSpan_X4_in
theorem dX4_isSpan_0 : decode cX4_isSpan 0 = .ok (.iload_n 0, 1) := by decide +kernel
theorem dX4_isSpan_1 : decode cX4_isSpan 1 = .ok (.iconst 0, 1) := by decide +kernel
theorem dX4_isSpan_2 : decode cX4_isSpan 2 = .ok (.sipush 20000, 3) := by decide +kernel
theorem dX4_isSpan_5 : decode cX4_isSpan 5 = .ok (.invokestatic 24, 3) := by decide +kernel
theorem dX4_isSpan_8 : decode cX4_isSpan 8 = .ok (.ifCond .eq 18, 3) := by decide +kernel
theorem dX4_isSpan_11 : decode cX4_isSpan 11 = .ok (.iload_n 1, 1) := by decide +kernel
theorem dX4_isSpan_12 : decode cX4_isSpan 12 = .ok (.iconst 1, 1) := by decide +kernel
theorem dX4_isSpan_13 : decode cX4_isSpan 13 = .ok (.sipush 2000, 3) := by decide +kernel
theorem dX4_isSpan_16 : decode cX4_isSpan 16 = .ok (.invokestatic 24, 3) := by decide +kernel
theorem dX4_isSpan_19 : decode cX4_isSpan 19 = .ok (.ifCond .eq 7, 3) := by decide +kernel
theorem dX4_isSpan_22 : decode cX4_isSpan 22 = .ok (.iconst 1, 1) := by decide +kernel
theorem dX4_isSpan_23 : decode cX4_isSpan 23 = .ok (.goto 4, 3) := by decide +kernel
theorem dX4_isSpan_26 : decode cX4_isSpan 26 = .ok (.iconst 0, 1) := by decide +kernel
theorem dX4_isSpan_27 : decode cX4_isSpan 27 = .ok (.ireturn, 1) := by decide +kernel
set_option maxRecDepth 20000 in
theorem ggX4_busy_X4_isOut : GoodIn wsX4_busy wsX4_isOut := goodIn_r _ [4, 5, 6, 3, 7] (by decide +kernel) (by decide +kernel)
set_option maxRecDepth 20000 in
theorem gX4_busy_X4_isOut : GoodIn wsX4_busy (va_wsS RX4 95 yX4_isOut wsX4_isOut) := goodIn_app (goodIn_of _ (by decide +kernel)) ggX4_busy_X4_isOut
set_option maxRecDepth 20000 in
theorem ggX4_busy_X4_isColour : GoodIn wsX4_busy wsX4_isColour := goodIn_r _ [10, 5, 6, 3, 7] (by decide +kernel) (by decide +kernel)
set_option maxRecDepth 20000 in
theorem gX4_busy_X4_isColour : GoodIn wsX4_busy (va_wsS RX4 99 yX4_isColour wsX4_isColour) := goodIn_app (goodIn_of _ (by decide +kernel)) ggX4_busy_X4_isColour
set_option maxRecDepth 20000 in
theorem ggX4_busy_X4_isSpan : GoodIn wsX4_busy wsX4_isSpan := goodIn_r _ [13, 5, 6, 3, 7] (by decide +kernel) (by decide +kernel)
set_option maxRecDepth 20000 in
theorem gX4_busy_X4_isSpan : GoodIn wsX4_busy (va_wsS RX4 121 yX4_isSpan wsX4_isSpan) := goodIn_app (goodIn_of _ (by decide +kernel)) ggX4_busy_X4_isSpan
set_option maxRecDepth 20000 in
theorem ggX4_busy_X4_isClear : GoodIn wsX4_busy wsX4_isClear := goodIn_r _ [17, 18, 19, 20, 21, 3, 22, 23, 24, 25, 26, 27, 28, 29, 30, 31, 32, 33, 34, 35, 36, 37, 38, 39, 40] (by decide +kernel) (by decide +kernel)
set_option maxRecDepth 20000 in
theorem gX4_busy_X4_isClear : GoodIn wsX4_busy (wsV RX4 42 RX4 yX4_isClear wsX4_isClear) := goodIn_app (goodIn_of _ (by decide +kernel)) ggX4_busy_X4_isClear
theorem dX4_busy_0 : decode cX4_busy 0 = .ok (.iload_n 1, 1) := by decide +kernel
theorem dX4_busy_1 : decode cX4_busy 1 = .ok (.invokestatic 95, 3) := by decide +kernel
theorem dX4_busy_4 : decode cX4_busy 4 = .ok (.ifCond .eq 10, 3) := by decide +kernel
theorem dX4_busy_7 : decode cX4_busy 7 = .ok (.iload_n 2, 1) := by decide +kernel
theorem dX4_busy_8 : decode cX4_busy 8 = .ok (.invokestatic 99, 3) := by decide +kernel
theorem dX4_busy_11 : decode cX4_busy 11 = .ok (.ifCond .ne 5, 3) := by decide +kernel
theorem dX4_busy_14 : decode cX4_busy 14 = .ok (.iconst (-1), 1) := by decide +kernel
theorem dX4_busy_15 : decode cX4_busy 15 = .ok (.ireturn, 1) := by decide +kernel
theorem dX4_busy_16 : decode cX4_busy 16 = .ok (.iload_n 3, 1) := by decide +kernel
theorem dX4_busy_17 : decode cX4_busy 17 = .ok (.iload 4, 2) := by decide +kernel
theorem dX4_busy_19 : decode cX4_busy 19 = .ok (.invokestatic 121, 3) := by decide +kernel
theorem dX4_busy_22 : decode cX4_busy 22 = .ok (.ifCond .ne 6, 3) := by decide +kernel
theorem dX4_busy_25 : decode cX4_busy 25 = .ok (.bipush (-2), 2) := by decide +kernel
theorem dX4_busy_27 : decode cX4_busy 27 = .ok (.ireturn, 1) := by decide +kernel
theorem dX4_busy_28 : decode cX4_busy 28 = .ok (.iconst 0, 1) := by decide +kernel
theorem dX4_busy_29 : decode cX4_busy 29 = .ok (.istore 5, 2) := by decide +kernel
theorem dX4_busy_31 : decode cX4_busy 31 = .ok (.iload_n 3, 1) := by decide +kernel
theorem dX4_busy_32 : decode cX4_busy 32 = .ok (.istore 6, 2) := by decide +kernel
theorem dX4_busy_34 : decode cX4_busy 34 = .ok (.iload 6, 2) := by decide +kernel
theorem dX4_busy_36 : decode cX4_busy 36 = .ok (.iload_n 3, 1) := by decide +kernel
theorem dX4_busy_37 : decode cX4_busy 37 = .ok (.iload 4, 2) := by decide +kernel
theorem dX4_busy_39 : decode cX4_busy 39 = .ok (.iadd, 1) := by decide +kernel
theorem dX4_busy_40 : decode cX4_busy 40 = .ok (.if_icmp .ge 31, 3) := by decide +kernel
theorem dX4_busy_43 : decode cX4_busy 43 = .ok (.iload 5, 2) := by decide +kernel
theorem dX4_busy_45 : decode cX4_busy 45 = .ok (.aload_n 0, 1) := by decide +kernel
theorem dX4_busy_46 : decode cX4_busy 46 = .ok (.iload_n 1, 1) := by decide +kernel
theorem dX4_busy_47 : decode cX4_busy 47 = .ok (.iload_n 2, 1) := by decide +kernel
theorem dX4_busy_48 : decode cX4_busy 48 = .ok (.iload 6, 2) := by decide +kernel
theorem dX4_busy_50 : decode cX4_busy 50 = .ok (.iconst 1, 1) := by decide +kernel
theorem dX4_busy_51 : decode cX4_busy 51 = .ok (.invokevirtual 42, 3) := by decide +kernel
theorem dX4_busy_54 : decode cX4_busy 54 = .ok (.ifCond .eq 7, 3) := by decide +kernel
theorem dX4_busy_57 : decode cX4_busy 57 = .ok (.iconst 0, 1) := by decide +kernel
theorem dX4_busy_58 : decode cX4_busy 58 = .ok (.goto 4, 3) := by decide +kernel
theorem dX4_busy_61 : decode cX4_busy 61 = .ok (.iconst 1, 1) := by decide +kernel
theorem dX4_busy_62 : decode cX4_busy 62 = .ok (.iadd, 1) := by decide +kernel
theorem dX4_busy_63 : decode cX4_busy 63 = .ok (.istore 5, 2) := by decide +kernel
theorem dX4_busy_65 : decode cX4_busy 65 = .ok (.iinc 6 1, 3) := by decide +kernel
theorem dX4_busy_68 : decode cX4_busy 68 = .ok (.goto (-34), 3) := by decide +kernel
theorem dX4_busy_71 : decode cX4_busy 71 = .ok (.iload 5, 2) := by decide +kernel
theorem dX4_busy_73 : decode cX4_busy 73 = .ok (.ireturn, 1) := by decide +kernel
set_option maxRecDepth 20000 in
theorem ggX4_free_X4_isOut : GoodIn wsX4_free wsX4_isOut := goodIn_r _ [4, 5, 6, 3, 7] (by decide +kernel) (by decide +kernel)
set_option maxRecDepth 20000 in
theorem gX4_free_X4_isOut : GoodIn wsX4_free (va_wsS RX4 95 yX4_isOut wsX4_isOut) := goodIn_app (goodIn_of _ (by decide +kernel)) ggX4_free_X4_isOut
set_option maxRecDepth 20000 in
theorem ggX4_free_X4_isSpan : GoodIn wsX4_free wsX4_isSpan := goodIn_r _ [10, 5, 6, 3, 7] (by decide +kernel) (by decide +kernel)
set_option maxRecDepth 20000 in
theorem gX4_free_X4_isSpan : GoodIn wsX4_free (va_wsS RX4 121 yX4_isSpan wsX4_isSpan) := goodIn_app (goodIn_of _ (by decide +kernel)) ggX4_free_X4_isSpan
set_option maxRecDepth 20000 in
theorem ggX4_free_X4_isClear : GoodIn wsX4_free wsX4_isClear := goodIn_r _ [14, 15, 16, 17, 18, 3, 19, 20, 21, 22, 23, 24, 25, 26, 27, 28, 29, 30, 31, 32, 33, 34, 35, 36, 37] (by decide +kernel) (by decide +kernel)
set_option maxRecDepth 20000 in
theorem gX4_free_X4_isClear : GoodIn wsX4_free (wsV RX4 42 RX4 yX4_isClear wsX4_isClear) := goodIn_app (goodIn_of _ (by decide +kernel)) ggX4_free_X4_isClear
theorem dX4_free_0 : decode cX4_free 0 = .ok (.iload_n 1, 1) := by decide +kernel
theorem dX4_free_1 : decode cX4_free 1 = .ok (.invokestatic 95, 3) := by decide +kernel
theorem dX4_free_4 : decode cX4_free 4 = .ok (.ifCond .ne 5, 3) := by decide +kernel
theorem dX4_free_7 : decode cX4_free 7 = .ok (.iconst (-1), 1) := by decide +kernel
theorem dX4_free_8 : decode cX4_free 8 = .ok (.ireturn, 1) := by decide +kernel
theorem dX4_free_9 : decode cX4_free 9 = .ok (.iload_n 2, 1) := by decide +kernel
theorem dX4_free_10 : decode cX4_free 10 = .ok (.iload_n 3, 1) := by decide +kernel
theorem dX4_free_11 : decode cX4_free 11 = .ok (.invokestatic 121, 3) := by decide +kernel
theorem dX4_free_14 : decode cX4_free 14 = .ok (.ifCond .ne 6, 3) := by decide +kernel
theorem dX4_free_17 : decode cX4_free 17 = .ok (.bipush (-2), 2) := by decide +kernel
theorem dX4_free_19 : decode cX4_free 19 = .ok (.ireturn, 1) := by decide +kernel
theorem dX4_free_20 : decode cX4_free 20 = .ok (.iconst 0, 1) := by decide +kernel
theorem dX4_free_21 : decode cX4_free 21 = .ok (.istore 4, 2) := by decide +kernel
theorem dX4_free_23 : decode cX4_free 23 = .ok (.iconst 0, 1) := by decide +kernel
theorem dX4_free_24 : decode cX4_free 24 = .ok (.istore 5, 2) := by decide +kernel
theorem dX4_free_26 : decode cX4_free 26 = .ok (.iload 5, 2) := by decide +kernel
theorem dX4_free_28 : decode cX4_free 28 = .ok (.bipush 6, 2) := by decide +kernel
theorem dX4_free_30 : decode cX4_free 30 = .ok (.if_icmp .ge 34, 3) := by decide +kernel
theorem dX4_free_33 : decode cX4_free 33 = .ok (.iload 4, 2) := by decide +kernel
theorem dX4_free_35 : decode cX4_free 35 = .ok (.aload_n 0, 1) := by decide +kernel
theorem dX4_free_36 : decode cX4_free 36 = .ok (.iload_n 1, 1) := by decide +kernel
theorem dX4_free_37 : decode cX4_free 37 = .ok (.iload 5, 2) := by decide +kernel
theorem dX4_free_39 : decode cX4_free 39 = .ok (.iload_n 2, 1) := by decide +kernel
theorem dX4_free_40 : decode cX4_free 40 = .ok (.iload_n 3, 1) := by decide +kernel
theorem dX4_free_41 : decode cX4_free 41 = .ok (.invokevirtual 42, 3) := by decide +kernel
theorem dX4_free_44 : decode cX4_free 44 = .ok (.ifCond .eq 10, 3) := by decide +kernel
theorem dX4_free_47 : decode cX4_free 47 = .ok (.iconst 1, 1) := by decide +kernel
theorem dX4_free_48 : decode cX4_free 48 = .ok (.iload 5, 2) := by decide +kernel
theorem dX4_free_50 : decode cX4_free 50 = .ok (.ishl, 1) := by decide +kernel
theorem dX4_free_51 : decode cX4_free 51 = .ok (.goto 4, 3) := by decide +kernel
theorem dX4_free_54 : decode cX4_free 54 = .ok (.iconst 0, 1) := by decide +kernel
theorem dX4_free_55 : decode cX4_free 55 = .ok (.ior, 1) := by decide +kernel
theorem dX4_free_56 : decode cX4_free 56 = .ok (.istore 4, 2) := by decide +kernel
theorem dX4_free_58 : decode cX4_free 58 = .ok (.iinc 5 1, 3) := by decide +kernel
theorem dX4_free_61 : decode cX4_free 61 = .ok (.goto (-35), 3) := by decide +kernel
theorem dX4_free_64 : decode cX4_free 64 = .ok (.iload 4, 2) := by decide +kernel
theorem dX4_free_66 : decode cX4_free 66 = .ok (.ireturn, 1) := by decide +kernel
set_option maxRecDepth 20000 in
theorem ggX4_next_X4_isOut : GoodIn wsX4_next wsX4_isOut := goodIn_r _ [5, 6, 7, 4, 8] (by decide +kernel) (by decide +kernel)
set_option maxRecDepth 20000 in
theorem gX4_next_X4_isOut : GoodIn wsX4_next (va_wsS RX4 95 yX4_isOut wsX4_isOut) := goodIn_app (goodIn_of _ (by decide +kernel)) ggX4_next_X4_isOut
set_option maxRecDepth 20000 in
theorem ggX4_next_X4_isColour : GoodIn wsX4_next wsX4_isColour := goodIn_r _ [11, 6, 7, 4, 8] (by decide +kernel) (by decide +kernel)
set_option maxRecDepth 20000 in
theorem gX4_next_X4_isColour : GoodIn wsX4_next (va_wsS RX4 99 yX4_isColour wsX4_isColour) := goodIn_app (goodIn_of _ (by decide +kernel)) ggX4_next_X4_isColour
set_option maxRecDepth 20000 in
theorem ggX4_next_X4_isSpan : GoodIn wsX4_next wsX4_isSpan := goodIn_r _ [14, 6, 7, 4, 8] (by decide +kernel) (by decide +kernel)
set_option maxRecDepth 20000 in
theorem gX4_next_X4_isSpan : GoodIn wsX4_next (va_wsS RX4 121 yX4_isSpan wsX4_isSpan) := goodIn_app (goodIn_of _ (by decide +kernel)) ggX4_next_X4_isSpan
set_option maxRecDepth 20000 in
theorem ggX4_next_X4_isOn : GoodIn wsX4_next wsX4_isOn := goodIn_r _ [18, 19, 20, 21, 4, 22, 1, 23, 24, 25, 33, 34, 35, 36, 37, 38, 39, 40] (by decide +kernel) (by decide +kernel)
set_option maxRecDepth 20000 in
theorem gX4_next_X4_isOn : GoodIn wsX4_next (wsV RX4 35 RX4 yX4_isOn wsX4_isOn) := goodIn_app (goodIn_of _ (by decide +kernel)) ggX4_next_X4_isOn
set_option maxRecDepth 20000 in
theorem ggX4_next_X4_of : GoodIn wsX4_next wsX4_of := goodIn_r _ [22, 1, 23, 24, 4, 25, 33, 34, 35, 36, 37, 38, 39, 40] (by decide +kernel) (by decide +kernel)
set_option maxRecDepth 20000 in
theorem gX4_next_X4_of : GoodIn wsX4_next (wsV RX4 28 RX4 yX4_of wsX4_of) := goodIn_app (goodIn_of _ (by decide +kernel)) ggX4_next_X4_of
set_option maxRecDepth 20000 in
theorem ggX4_next_X4_isClear : GoodIn wsX4_next wsX4_isClear := goodIn_r _ [29, 1, 15, 16, 17, 4, 18, 19, 20, 21, 22, 23, 24, 25, 30, 31, 32, 33, 34, 35, 36, 37, 38, 39, 40] (by decide +kernel) (by decide +kernel)
set_option maxRecDepth 20000 in
theorem gX4_next_X4_isClear : GoodIn wsX4_next (wsV RX4 42 RX4 yX4_isClear wsX4_isClear) := goodIn_app (goodIn_of _ (by decide +kernel)) ggX4_next_X4_isClear
theorem dX4_next_0 : decode cX4_next 0 = .ok (.iload_n 1, 1) := by decide +kernel
theorem dX4_next_1 : decode cX4_next 1 = .ok (.invokestatic 95, 3) := by decide +kernel
theorem dX4_next_4 : decode cX4_next 4 = .ok (.ifCond .eq 10, 3) := by decide +kernel
theorem dX4_next_7 : decode cX4_next 7 = .ok (.iload_n 2, 1) := by decide +kernel
theorem dX4_next_8 : decode cX4_next 8 = .ok (.invokestatic 99, 3) := by decide +kernel
theorem dX4_next_11 : decode cX4_next 11 = .ok (.ifCond .ne 5, 3) := by decide +kernel
theorem dX4_next_14 : decode cX4_next 14 = .ok (.iconst (-1), 1) := by decide +kernel
theorem dX4_next_15 : decode cX4_next 15 = .ok (.ireturn, 1) := by decide +kernel
theorem dX4_next_16 : decode cX4_next 16 = .ok (.iload_n 3, 1) := by decide +kernel
theorem dX4_next_17 : decode cX4_next 17 = .ok (.iload 4, 2) := by decide +kernel
theorem dX4_next_19 : decode cX4_next 19 = .ok (.invokestatic 121, 3) := by decide +kernel
theorem dX4_next_22 : decode cX4_next 22 = .ok (.ifCond .ne 6, 3) := by decide +kernel
theorem dX4_next_25 : decode cX4_next 25 = .ok (.bipush (-2), 2) := by decide +kernel
theorem dX4_next_27 : decode cX4_next 27 = .ok (.ireturn, 1) := by decide +kernel
theorem dX4_next_28 : decode cX4_next 28 = .ok (.bipush (-6), 2) := by decide +kernel
theorem dX4_next_30 : decode cX4_next 30 = .ok (.istore 5, 2) := by decide +kernel
theorem dX4_next_32 : decode cX4_next 32 = .ok (.iconst (-1), 1) := by decide +kernel
theorem dX4_next_33 : decode cX4_next 33 = .ok (.istore 6, 2) := by decide +kernel
theorem dX4_next_35 : decode cX4_next 35 = .ok (.iload 6, 2) := by decide +kernel
theorem dX4_next_37 : decode cX4_next 37 = .ok (.aload_n 0, 1) := by decide +kernel
theorem dX4_next_38 : decode cX4_next 38 = .ok (.getfield 7, 3) := by decide +kernel
theorem dX4_next_41 : decode cX4_next 41 = .ok (.bipush 10, 2) := by decide +kernel
theorem dX4_next_43 : decode cX4_next 43 = .ok (.iaload, 1) := by decide +kernel
theorem dX4_next_44 : decode cX4_next 44 = .ok (.if_icmp .ge 87, 3) := by decide +kernel
theorem dX4_next_47 : decode cX4_next 47 = .ok (.iload 6, 2) := by decide +kernel
theorem dX4_next_49 : decode cX4_next 49 = .ok (.ifCond .ge 7, 3) := by decide +kernel
theorem dX4_next_52 : decode cX4_next 52 = .ok (.iload_n 3, 1) := by decide +kernel
theorem dX4_next_53 : decode cX4_next 53 = .ok (.goto 35, 3) := by decide +kernel
theorem dX4_next_56 : decode cX4_next 56 = .ok (.aload_n 0, 1) := by decide +kernel
theorem dX4_next_57 : decode cX4_next 57 = .ok (.iload 6, 2) := by decide +kernel
theorem dX4_next_59 : decode cX4_next 59 = .ok (.iload_n 1, 1) := by decide +kernel
theorem dX4_next_60 : decode cX4_next 60 = .ok (.iload_n 2, 1) := by decide +kernel
theorem dX4_next_61 : decode cX4_next 61 = .ok (.invokevirtual 35, 3) := by decide +kernel
theorem dX4_next_64 : decode cX4_next 64 = .ok (.ifCond .eq 23, 3) := by decide +kernel
theorem dX4_next_67 : decode cX4_next 67 = .ok (.aload_n 0, 1) := by decide +kernel
theorem dX4_next_68 : decode cX4_next 68 = .ok (.iload 6, 2) := by decide +kernel
theorem dX4_next_70 : decode cX4_next 70 = .ok (.bipush 8, 2) := by decide +kernel
theorem dX4_next_72 : decode cX4_next 72 = .ok (.invokevirtual 28, 3) := by decide +kernel
theorem dX4_next_75 : decode cX4_next 75 = .ok (.aload_n 0, 1) := by decide +kernel
theorem dX4_next_76 : decode cX4_next 76 = .ok (.iload 6, 2) := by decide +kernel
theorem dX4_next_78 : decode cX4_next 78 = .ok (.bipush 9, 2) := by decide +kernel
theorem dX4_next_80 : decode cX4_next 80 = .ok (.invokevirtual 28, 3) := by decide +kernel
theorem dX4_next_83 : decode cX4_next 83 = .ok (.iadd, 1) := by decide +kernel
theorem dX4_next_84 : decode cX4_next 84 = .ok (.goto 4, 3) := by decide +kernel
theorem dX4_next_87 : decode cX4_next 87 = .ok (.iload_n 3, 1) := by decide +kernel
theorem dX4_next_88 : decode cX4_next 88 = .ok (.istore 7, 2) := by decide +kernel
theorem dX4_next_90 : decode cX4_next 90 = .ok (.iload 7, 2) := by decide +kernel
theorem dX4_next_92 : decode cX4_next 92 = .ok (.iload_n 3, 1) := by decide +kernel
theorem dX4_next_93 : decode cX4_next 93 = .ok (.if_icmp .lt 32, 3) := by decide +kernel
theorem dX4_next_96 : decode cX4_next 96 = .ok (.iload 5, 2) := by decide +kernel
theorem dX4_next_98 : decode cX4_next 98 = .ok (.ifCond .lt 10, 3) := by decide +kernel
theorem dX4_next_101 : decode cX4_next 101 = .ok (.iload 7, 2) := by decide +kernel
theorem dX4_next_103 : decode cX4_next 103 = .ok (.iload 5, 2) := by decide +kernel
theorem dX4_next_105 : decode cX4_next 105 = .ok (.if_icmp .ge 20, 3) := by decide +kernel
theorem dX4_next_108 : decode cX4_next 108 = .ok (.aload_n 0, 1) := by decide +kernel
theorem dX4_next_109 : decode cX4_next 109 = .ok (.iload_n 1, 1) := by decide +kernel
theorem dX4_next_110 : decode cX4_next 110 = .ok (.iload_n 2, 1) := by decide +kernel
theorem dX4_next_111 : decode cX4_next 111 = .ok (.iload 7, 2) := by decide +kernel
theorem dX4_next_113 : decode cX4_next 113 = .ok (.iload 4, 2) := by decide +kernel
theorem dX4_next_115 : decode cX4_next 115 = .ok (.invokevirtual 42, 3) := by decide +kernel
theorem dX4_next_118 : decode cX4_next 118 = .ok (.ifCond .eq 7, 3) := by decide +kernel
theorem dX4_next_121 : decode cX4_next 121 = .ok (.iload 7, 2) := by decide +kernel
theorem dX4_next_123 : decode cX4_next 123 = .ok (.istore 5, 2) := by decide +kernel
theorem dX4_next_125 : decode cX4_next 125 = .ok (.iinc 6 1, 3) := by decide +kernel
theorem dX4_next_128 : decode cX4_next 128 = .ok (.goto (-93), 3) := by decide +kernel
theorem dX4_next_131 : decode cX4_next 131 = .ok (.iload 5, 2) := by decide +kernel
theorem dX4_next_133 : decode cX4_next 133 = .ok (.ireturn, 1) := by decide +kernel
set_option maxRecDepth 20000 in
theorem ggX4_hole_X4_isOut : GoodIn wsX4_hole wsX4_isOut := goodIn_r _ [5, 6, 7, 4, 8] (by decide +kernel) (by decide +kernel)
set_option maxRecDepth 20000 in
theorem gX4_hole_X4_isOut : GoodIn wsX4_hole (va_wsS RX4 95 yX4_isOut wsX4_isOut) := goodIn_app (goodIn_of _ (by decide +kernel)) ggX4_hole_X4_isOut
set_option maxRecDepth 20000 in
theorem ggX4_hole_X4_isColour : GoodIn wsX4_hole wsX4_isColour := goodIn_r _ [11, 6, 7, 4, 8] (by decide +kernel) (by decide +kernel)
set_option maxRecDepth 20000 in
theorem gX4_hole_X4_isColour : GoodIn wsX4_hole (va_wsS RX4 99 yX4_isColour wsX4_isColour) := goodIn_app (goodIn_of _ (by decide +kernel)) ggX4_hole_X4_isColour
set_option maxRecDepth 20000 in
theorem ggX4_hole_X4_in : GoodIn wsX4_hole wsX4_in := goodIn_r _ [8] (by decide +kernel) (by decide +kernel)
set_option maxRecDepth 20000 in
theorem gX4_hole_X4_in : GoodIn wsX4_hole (va_wsS RX4 24 yX4_in wsX4_in) := goodIn_app (goodIn_of _ (by decide +kernel)) ggX4_hole_X4_in
set_option maxRecDepth 20000 in
theorem ggX4_hole_X4_bookingAt : GoodIn wsX4_hole wsX4_bookingAt := goodIn_r _ [15, 1, 16, 17, 18, 4, 19, 20, 21, 22, 23, 24, 25, 26, 27, 28, 29, 30, 31, 32, 33, 34, 35, 36, 37, 38, 39, 40, 41, 42] (by decide +kernel) (by decide +kernel)
set_option maxRecDepth 20000 in
theorem gX4_hole_X4_bookingAt : GoodIn wsX4_hole (wsV RX4 118 RX4 yX4_bookingAt wsX4_bookingAt) := goodIn_app (goodIn_of _ (by decide +kernel)) ggX4_hole_X4_bookingAt
set_option maxRecDepth 20000 in
theorem ggX4_hole_X4_of : GoodIn wsX4_hole wsX4_of := goodIn_r _ [23, 1, 24, 25, 4, 26, 35, 36, 37, 38, 39, 40, 41, 42] (by decide +kernel) (by decide +kernel)
set_option maxRecDepth 20000 in
theorem gX4_hole_X4_of : GoodIn wsX4_hole (wsV RX4 28 RX4 yX4_of wsX4_of) := goodIn_app (goodIn_of _ (by decide +kernel)) ggX4_hole_X4_of
theorem dX4_hole_0 : decode cX4_hole 0 = .ok (.iload_n 1, 1) := by decide +kernel
theorem dX4_hole_1 : decode cX4_hole 1 = .ok (.invokestatic 95, 3) := by decide +kernel
theorem dX4_hole_4 : decode cX4_hole 4 = .ok (.ifCond .eq 10, 3) := by decide +kernel
theorem dX4_hole_7 : decode cX4_hole 7 = .ok (.iload_n 2, 1) := by decide +kernel
theorem dX4_hole_8 : decode cX4_hole 8 = .ok (.invokestatic 99, 3) := by decide +kernel
theorem dX4_hole_11 : decode cX4_hole 11 = .ok (.ifCond .ne 5, 3) := by decide +kernel
theorem dX4_hole_14 : decode cX4_hole 14 = .ok (.iconst (-1), 1) := by decide +kernel
theorem dX4_hole_15 : decode cX4_hole 15 = .ok (.ireturn, 1) := by decide +kernel
theorem dX4_hole_16 : decode cX4_hole 16 = .ok (.iload 4, 2) := by decide +kernel
theorem dX4_hole_18 : decode cX4_hole 18 = .ok (.iconst 0, 1) := by decide +kernel
theorem dX4_hole_19 : decode cX4_hole 19 = .ok (.iconst 1, 1) := by decide +kernel
theorem dX4_hole_20 : decode cX4_hole 20 = .ok (.invokestatic 24, 3) := by decide +kernel
theorem dX4_hole_23 : decode cX4_hole 23 = .ok (.ifCond .ne 6, 3) := by decide +kernel
theorem dX4_hole_26 : decode cX4_hole 26 = .ok (.bipush (-2), 2) := by decide +kernel
theorem dX4_hole_28 : decode cX4_hole 28 = .ok (.ireturn, 1) := by decide +kernel
theorem dX4_hole_29 : decode cX4_hole 29 = .ok (.iconst 0, 1) := by decide +kernel
theorem dX4_hole_30 : decode cX4_hole 30 = .ok (.istore 5, 2) := by decide +kernel
theorem dX4_hole_32 : decode cX4_hole 32 = .ok (.aload_n 0, 1) := by decide +kernel
theorem dX4_hole_33 : decode cX4_hole 33 = .ok (.getfield 7, 3) := by decide +kernel
theorem dX4_hole_36 : decode cX4_hole 36 = .ok (.bipush 9, 2) := by decide +kernel
theorem dX4_hole_38 : decode cX4_hole 38 = .ok (.iaload, 1) := by decide +kernel
theorem dX4_hole_39 : decode cX4_hole 39 = .ok (.istore 6, 2) := by decide +kernel
theorem dX4_hole_41 : decode cX4_hole 41 = .ok (.iconst 0, 1) := by decide +kernel
theorem dX4_hole_42 : decode cX4_hole 42 = .ok (.istore 7, 2) := by decide +kernel
theorem dX4_hole_44 : decode cX4_hole 44 = .ok (.iload 7, 2) := by decide +kernel
theorem dX4_hole_46 : decode cX4_hole 46 = .ok (.aload_n 0, 1) := by decide +kernel
theorem dX4_hole_47 : decode cX4_hole 47 = .ok (.getfield 7, 3) := by decide +kernel
theorem dX4_hole_50 : decode cX4_hole 50 = .ok (.bipush 10, 2) := by decide +kernel
theorem dX4_hole_52 : decode cX4_hole 52 = .ok (.iaload, 1) := by decide +kernel
theorem dX4_hole_53 : decode cX4_hole 53 = .ok (.if_icmp .ge 134, 3) := by decide +kernel
theorem dX4_hole_56 : decode cX4_hole 56 = .ok (.aload_n 0, 1) := by decide +kernel
theorem dX4_hole_57 : decode cX4_hole 57 = .ok (.iload_n 1, 1) := by decide +kernel
theorem dX4_hole_58 : decode cX4_hole 58 = .ok (.iload_n 2, 1) := by decide +kernel
theorem dX4_hole_59 : decode cX4_hole 59 = .ok (.iload 7, 2) := by decide +kernel
theorem dX4_hole_61 : decode cX4_hole 61 = .ok (.invokevirtual 118, 3) := by decide +kernel
theorem dX4_hole_64 : decode cX4_hole 64 = .ok (.istore 8, 2) := by decide +kernel
theorem dX4_hole_66 : decode cX4_hole 66 = .ok (.iload 8, 2) := by decide +kernel
theorem dX4_hole_68 : decode cX4_hole 68 = .ok (.ifCond .ge 6, 3) := by decide +kernel
theorem dX4_hole_71 : decode cX4_hole 71 = .ok (.bipush (-6), 2) := by decide +kernel
theorem dX4_hole_73 : decode cX4_hole 73 = .ok (.ireturn, 1) := by decide +kernel
theorem dX4_hole_74 : decode cX4_hole 74 = .ok (.iload 6, 2) := by decide +kernel
theorem dX4_hole_76 : decode cX4_hole 76 = .ok (.aload_n 0, 1) := by decide +kernel
theorem dX4_hole_77 : decode cX4_hole 77 = .ok (.getfield 7, 3) := by decide +kernel
theorem dX4_hole_80 : decode cX4_hole 80 = .ok (.bipush 9, 2) := by decide +kernel
theorem dX4_hole_82 : decode cX4_hole 82 = .ok (.iaload, 1) := by decide +kernel
theorem dX4_hole_83 : decode cX4_hole 83 = .ok (.if_icmp .le 8, 3) := by decide +kernel
theorem dX4_hole_86 : decode cX4_hole 86 = .ok (.iload 6, 2) := by decide +kernel
theorem dX4_hole_88 : decode cX4_hole 88 = .ok (.goto 10, 3) := by decide +kernel
theorem dX4_hole_91 : decode cX4_hole 91 = .ok (.aload_n 0, 1) := by decide +kernel
theorem dX4_hole_92 : decode cX4_hole 92 = .ok (.getfield 7, 3) := by decide +kernel
theorem dX4_hole_95 : decode cX4_hole 95 = .ok (.bipush 9, 2) := by decide +kernel
theorem dX4_hole_97 : decode cX4_hole 97 = .ok (.iaload, 1) := by decide +kernel
theorem dX4_hole_98 : decode cX4_hole 98 = .ok (.istore 9, 2) := by decide +kernel
theorem dX4_hole_100 : decode cX4_hole 100 = .ok (.aload_n 0, 1) := by decide +kernel
theorem dX4_hole_101 : decode cX4_hole 101 = .ok (.iload 8, 2) := by decide +kernel
theorem dX4_hole_103 : decode cX4_hole 103 = .ok (.bipush 8, 2) := by decide +kernel
theorem dX4_hole_105 : decode cX4_hole 105 = .ok (.invokevirtual 28, 3) := by decide +kernel
theorem dX4_hole_108 : decode cX4_hole 108 = .ok (.aload_n 0, 1) := by decide +kernel
theorem dX4_hole_109 : decode cX4_hole 109 = .ok (.getfield 7, 3) := by decide +kernel
theorem dX4_hole_112 : decode cX4_hole 112 = .ok (.bipush 9, 2) := by decide +kernel
theorem dX4_hole_114 : decode cX4_hole 114 = .ok (.iaload, 1) := by decide +kernel
theorem dX4_hole_115 : decode cX4_hole 115 = .ok (.if_icmp .le 47, 3) := by decide +kernel
theorem dX4_hole_118 : decode cX4_hole 118 = .ok (.iload 9, 2) := by decide +kernel
theorem dX4_hole_120 : decode cX4_hole 120 = .ok (.aload_n 0, 1) := by decide +kernel
theorem dX4_hole_121 : decode cX4_hole 121 = .ok (.iload 8, 2) := by decide +kernel
theorem dX4_hole_123 : decode cX4_hole 123 = .ok (.bipush 8, 2) := by decide +kernel
theorem dX4_hole_125 : decode cX4_hole 125 = .ok (.invokevirtual 28, 3) := by decide +kernel
theorem dX4_hole_128 : decode cX4_hole 128 = .ok (.if_icmp .ge 34, 3) := by decide +kernel
theorem dX4_hole_131 : decode cX4_hole 131 = .ok (.iload 5, 2) := by decide +kernel
theorem dX4_hole_133 : decode cX4_hole 133 = .ok (.iload_n 3, 1) := by decide +kernel
theorem dX4_hole_134 : decode cX4_hole 134 = .ok (.if_icmp .ne 25, 3) := by decide +kernel
theorem dX4_hole_137 : decode cX4_hole 137 = .ok (.iload 4, 2) := by decide +kernel
theorem dX4_hole_139 : decode cX4_hole 139 = .ok (.ifCond .ne 8, 3) := by decide +kernel
theorem dX4_hole_142 : decode cX4_hole 142 = .ok (.iload 9, 2) := by decide +kernel
theorem dX4_hole_144 : decode cX4_hole 144 = .ok (.goto 14, 3) := by decide +kernel
theorem dX4_hole_147 : decode cX4_hole 147 = .ok (.aload_n 0, 1) := by decide +kernel
theorem dX4_hole_148 : decode cX4_hole 148 = .ok (.iload 8, 2) := by decide +kernel
theorem dX4_hole_150 : decode cX4_hole 150 = .ok (.bipush 8, 2) := by decide +kernel
theorem dX4_hole_152 : decode cX4_hole 152 = .ok (.invokevirtual 28, 3) := by decide +kernel
theorem dX4_hole_155 : decode cX4_hole 155 = .ok (.iload 9, 2) := by decide +kernel
theorem dX4_hole_157 : decode cX4_hole 157 = .ok (.isub, 1) := by decide +kernel
theorem dX4_hole_158 : decode cX4_hole 158 = .ok (.ireturn, 1) := by decide +kernel
theorem dX4_hole_159 : decode cX4_hole 159 = .ok (.iinc 5 1, 3) := by decide +kernel
theorem dX4_hole_162 : decode cX4_hole 162 = .ok (.aload_n 0, 1) := by decide +kernel
theorem dX4_hole_163 : decode cX4_hole 163 = .ok (.iload 8, 2) := by decide +kernel
theorem dX4_hole_165 : decode cX4_hole 165 = .ok (.bipush 8, 2) := by decide +kernel
theorem dX4_hole_167 : decode cX4_hole 167 = .ok (.invokevirtual 28, 3) := by decide +kernel
theorem dX4_hole_170 : decode cX4_hole 170 = .ok (.aload_n 0, 1) := by decide +kernel
theorem dX4_hole_171 : decode cX4_hole 171 = .ok (.iload 8, 2) := by decide +kernel
theorem dX4_hole_173 : decode cX4_hole 173 = .ok (.bipush 9, 2) := by decide +kernel
theorem dX4_hole_175 : decode cX4_hole 175 = .ok (.invokevirtual 28, 3) := by decide +kernel
theorem dX4_hole_178 : decode cX4_hole 178 = .ok (.iadd, 1) := by decide +kernel
theorem dX4_hole_179 : decode cX4_hole 179 = .ok (.istore 6, 2) := by decide +kernel
theorem dX4_hole_181 : decode cX4_hole 181 = .ok (.iinc 7 1, 3) := by decide +kernel
theorem dX4_hole_184 : decode cX4_hole 184 = .ok (.goto (-140), 3) := by decide +kernel
theorem dX4_hole_187 : decode cX4_hole 187 = .ok (.bipush (-6), 2) := by decide +kernel
theorem dX4_hole_189 : decode cX4_hole 189 = .ok (.ireturn, 1) := by decide +kernel
theorem dX4_common_0 : decode cX4_common 0 = .ok (.iload_n 0, 1) := by decide +kernel
theorem dX4_common_1 : decode cX4_common 1 = .ok (.istore_n 2, 1) := by decide +kernel
theorem dX4_common_2 : decode cX4_common 2 = .ok (.iload_n 1, 1) := by decide +kernel
theorem dX4_common_3 : decode cX4_common 3 = .ok (.istore_n 3, 1) := by decide +kernel
theorem dX4_common_4 : decode cX4_common 4 = .ok (.iconst 0, 1) := by decide +kernel
theorem dX4_common_5 : decode cX4_common 5 = .ok (.istore 4, 2) := by decide +kernel
theorem dX4_common_7 : decode cX4_common 7 = .ok (.iload 4, 2) := by decide +kernel
theorem dX4_common_9 : decode cX4_common 9 = .ok (.bipush 100, 2) := by decide +kernel
theorem dX4_common_11 : decode cX4_common 11 = .ok (.if_icmp .ge 23, 3) := by decide +kernel
theorem dX4_common_14 : decode cX4_common 14 = .ok (.iload_n 3, 1) := by decide +kernel
theorem dX4_common_15 : decode cX4_common 15 = .ok (.ifCond .eq 19, 3) := by decide +kernel
theorem dX4_common_18 : decode cX4_common 18 = .ok (.iload_n 2, 1) := by decide +kernel
theorem dX4_common_19 : decode cX4_common 19 = .ok (.iload_n 3, 1) := by decide +kernel
theorem dX4_common_20 : decode cX4_common 20 = .ok (.irem, 1) := by decide +kernel
theorem dX4_common_21 : decode cX4_common 21 = .ok (.istore 5, 2) := by decide +kernel
theorem dX4_common_23 : decode cX4_common 23 = .ok (.iload_n 3, 1) := by decide +kernel
theorem dX4_common_24 : decode cX4_common 24 = .ok (.istore_n 2, 1) := by decide +kernel
theorem dX4_common_25 : decode cX4_common 25 = .ok (.iload 5, 2) := by decide +kernel
theorem dX4_common_27 : decode cX4_common 27 = .ok (.istore_n 3, 1) := by decide +kernel
theorem dX4_common_28 : decode cX4_common 28 = .ok (.iinc 4 1, 3) := by decide +kernel
theorem dX4_common_31 : decode cX4_common 31 = .ok (.goto (-24), 3) := by decide +kernel
theorem dX4_common_34 : decode cX4_common 34 = .ok (.iload_n 2, 1) := by decide +kernel
theorem dX4_common_35 : decode cX4_common 35 = .ok (.ireturn, 1) := by decide +kernel
set_option maxRecDepth 20000 in
theorem ggX4_tally_X4_in : GoodIn wsX4_tally wsX4_in := goodIn_r _ [5] (by decide +kernel) (by decide +kernel)
set_option maxRecDepth 20000 in
theorem gX4_tally_X4_in : GoodIn wsX4_tally (va_wsS RX4 24 yX4_in wsX4_in) := goodIn_app (goodIn_of _ (by decide +kernel)) ggX4_tally_X4_in
set_option maxRecDepth 20000 in
theorem ggX4_tally_X4_of : GoodIn wsX4_tally wsX4_of := goodIn_r _ [9, 1, 10, 11, 4, 12, 16, 17, 18, 19, 20, 21, 22, 23] (by decide +kernel) (by decide +kernel)
set_option maxRecDepth 20000 in
theorem gX4_tally_X4_of : GoodIn wsX4_tally (wsV RX4 28 RX4 yX4_of wsX4_of) := goodIn_app (goodIn_of _ (by decide +kernel)) ggX4_tally_X4_of
set_option maxRecDepth 20000 in
theorem ggX4_tally_X4_common : GoodIn wsX4_tally wsX4_common := goodIn_r _ [15] (by decide +kernel) (by decide +kernel)
set_option maxRecDepth 20000 in
theorem gX4_tally_X4_common : GoodIn wsX4_tally (va_wsS RX4 124 yX4_common wsX4_common) := goodIn_app (goodIn_of _ (by decide +kernel)) ggX4_tally_X4_common
theorem dX4_tally_0 : decode cX4_tally 0 = .ok (.iload_n 1, 1) := by decide +kernel
theorem dX4_tally_1 : decode cX4_tally 1 = .ok (.iconst 0, 1) := by decide +kernel
theorem dX4_tally_2 : decode cX4_tally 2 = .ok (.iconst 2, 1) := by decide +kernel
theorem dX4_tally_3 : decode cX4_tally 3 = .ok (.invokestatic 24, 3) := by decide +kernel
theorem dX4_tally_6 : decode cX4_tally 6 = .ok (.ifCond .ne 5, 3) := by decide +kernel
theorem dX4_tally_9 : decode cX4_tally 9 = .ok (.iconst (-1), 1) := by decide +kernel
theorem dX4_tally_10 : decode cX4_tally 10 = .ok (.ireturn, 1) := by decide +kernel
theorem dX4_tally_11 : decode cX4_tally 11 = .ok (.iload_n 2, 1) := by decide +kernel
theorem dX4_tally_12 : decode cX4_tally 12 = .ok (.iconst 0, 1) := by decide +kernel
theorem dX4_tally_13 : decode cX4_tally 13 = .ok (.iconst 5, 1) := by decide +kernel
theorem dX4_tally_14 : decode cX4_tally 14 = .ok (.invokestatic 24, 3) := by decide +kernel
theorem dX4_tally_17 : decode cX4_tally 17 = .ok (.ifCond .ne 6, 3) := by decide +kernel
theorem dX4_tally_20 : decode cX4_tally 20 = .ok (.bipush (-2), 2) := by decide +kernel
theorem dX4_tally_22 : decode cX4_tally 22 = .ok (.ireturn, 1) := by decide +kernel
theorem dX4_tally_23 : decode cX4_tally 23 = .ok (.iconst 0, 1) := by decide +kernel
theorem dX4_tally_24 : decode cX4_tally 24 = .ok (.istore_n 3, 1) := by decide +kernel
theorem dX4_tally_25 : decode cX4_tally 25 = .ok (.iconst 0, 1) := by decide +kernel
theorem dX4_tally_26 : decode cX4_tally 26 = .ok (.istore 4, 2) := by decide +kernel
theorem dX4_tally_28 : decode cX4_tally 28 = .ok (.iconst 0, 1) := by decide +kernel
theorem dX4_tally_29 : decode cX4_tally 29 = .ok (.istore 5, 2) := by decide +kernel
theorem dX4_tally_31 : decode cX4_tally 31 = .ok (.iconst 0, 1) := by decide +kernel
theorem dX4_tally_32 : decode cX4_tally 32 = .ok (.istore 6, 2) := by decide +kernel
theorem dX4_tally_34 : decode cX4_tally 34 = .ok (.iconst 0, 1) := by decide +kernel
theorem dX4_tally_35 : decode cX4_tally 35 = .ok (.istore 7, 2) := by decide +kernel
theorem dX4_tally_37 : decode cX4_tally 37 = .ok (.iload 7, 2) := by decide +kernel
theorem dX4_tally_39 : decode cX4_tally 39 = .ok (.aload_n 0, 1) := by decide +kernel
theorem dX4_tally_40 : decode cX4_tally 40 = .ok (.getfield 7, 3) := by decide +kernel
theorem dX4_tally_43 : decode cX4_tally 43 = .ok (.bipush 10, 2) := by decide +kernel
theorem dX4_tally_45 : decode cX4_tally 45 = .ok (.iaload, 1) := by decide +kernel
theorem dX4_tally_46 : decode cX4_tally 46 = .ok (.if_icmp .ge 82, 3) := by decide +kernel
theorem dX4_tally_49 : decode cX4_tally 49 = .ok (.aload_n 0, 1) := by decide +kernel
theorem dX4_tally_50 : decode cX4_tally 50 = .ok (.iload 7, 2) := by decide +kernel
theorem dX4_tally_52 : decode cX4_tally 52 = .ok (.iconst 2, 1) := by decide +kernel
theorem dX4_tally_53 : decode cX4_tally 53 = .ok (.invokevirtual 28, 3) := by decide +kernel
theorem dX4_tally_56 : decode cX4_tally 56 = .ok (.iload_n 1, 1) := by decide +kernel
theorem dX4_tally_57 : decode cX4_tally 57 = .ok (.if_icmp .ne 65, 3) := by decide +kernel
theorem dX4_tally_60 : decode cX4_tally 60 = .ok (.aload_n 0, 1) := by decide +kernel
theorem dX4_tally_61 : decode cX4_tally 61 = .ok (.iload 7, 2) := by decide +kernel
theorem dX4_tally_63 : decode cX4_tally 63 = .ok (.bipush 6, 2) := by decide +kernel
theorem dX4_tally_65 : decode cX4_tally 65 = .ok (.invokevirtual 28, 3) := by decide +kernel
theorem dX4_tally_68 : decode cX4_tally 68 = .ok (.iconst 4, 1) := by decide +kernel
theorem dX4_tally_69 : decode cX4_tally 69 = .ok (.if_icmp .eq 53, 3) := by decide +kernel
theorem dX4_tally_72 : decode cX4_tally 72 = .ok (.iinc 3 1, 3) := by decide +kernel
theorem dX4_tally_75 : decode cX4_tally 75 = .ok (.iload 4, 2) := by decide +kernel
theorem dX4_tally_77 : decode cX4_tally 77 = .ok (.aload_n 0, 1) := by decide +kernel
theorem dX4_tally_78 : decode cX4_tally 78 = .ok (.iload 7, 2) := by decide +kernel
theorem dX4_tally_80 : decode cX4_tally 80 = .ok (.iconst 4, 1) := by decide +kernel
theorem dX4_tally_81 : decode cX4_tally 81 = .ok (.invokevirtual 28, 3) := by decide +kernel
theorem dX4_tally_84 : decode cX4_tally 84 = .ok (.iadd, 1) := by decide +kernel
theorem dX4_tally_85 : decode cX4_tally 85 = .ok (.istore 4, 2) := by decide +kernel
theorem dX4_tally_87 : decode cX4_tally 87 = .ok (.iload 5, 2) := by decide +kernel
theorem dX4_tally_89 : decode cX4_tally 89 = .ok (.aload_n 0, 1) := by decide +kernel
theorem dX4_tally_90 : decode cX4_tally 90 = .ok (.iload 7, 2) := by decide +kernel
theorem dX4_tally_92 : decode cX4_tally 92 = .ok (.bipush 9, 2) := by decide +kernel
theorem dX4_tally_94 : decode cX4_tally 94 = .ok (.invokevirtual 28, 3) := by decide +kernel
theorem dX4_tally_97 : decode cX4_tally 97 = .ok (.iadd, 1) := by decide +kernel
theorem dX4_tally_98 : decode cX4_tally 98 = .ok (.istore 5, 2) := by decide +kernel
theorem dX4_tally_100 : decode cX4_tally 100 = .ok (.iload 6, 2) := by decide +kernel
theorem dX4_tally_102 : decode cX4_tally 102 = .ok (.aload_n 0, 1) := by decide +kernel
theorem dX4_tally_103 : decode cX4_tally 103 = .ok (.iload 7, 2) := by decide +kernel
theorem dX4_tally_105 : decode cX4_tally 105 = .ok (.bipush 6, 2) := by decide +kernel
theorem dX4_tally_107 : decode cX4_tally 107 = .ok (.invokevirtual 28, 3) := by decide +kernel
theorem dX4_tally_110 : decode cX4_tally 110 = .ok (.iconst 3, 1) := by decide +kernel
theorem dX4_tally_111 : decode cX4_tally 111 = .ok (.if_icmp .ne 7, 3) := by decide +kernel
theorem dX4_tally_114 : decode cX4_tally 114 = .ok (.iconst 1, 1) := by decide +kernel
theorem dX4_tally_115 : decode cX4_tally 115 = .ok (.goto 4, 3) := by decide +kernel
theorem dX4_tally_118 : decode cX4_tally 118 = .ok (.iconst 0, 1) := by decide +kernel
theorem dX4_tally_119 : decode cX4_tally 119 = .ok (.iadd, 1) := by decide +kernel
theorem dX4_tally_120 : decode cX4_tally 120 = .ok (.istore 6, 2) := by decide +kernel
theorem dX4_tally_122 : decode cX4_tally 122 = .ok (.iinc 7 1, 3) := by decide +kernel
theorem dX4_tally_125 : decode cX4_tally 125 = .ok (.goto (-88), 3) := by decide +kernel
theorem dX4_tally_128 : decode cX4_tally 128 = .ok (.iload_n 2, 1) := by decide +kernel
theorem dX4_tally_129 : decode cX4_tally 129 = .ok (.iconst 4, 1) := by decide +kernel
theorem dX4_tally_130 : decode cX4_tally 130 = .ok (.if_icmp .ge 34, 3) := by decide +kernel
theorem dX4_tally_133 : decode cX4_tally 133 = .ok (.iload_n 2, 1) := by decide +kernel
theorem dX4_tally_134 : decode cX4_tally 134 = .ok (.ifCond .ne 7, 3) := by decide +kernel
theorem dX4_tally_137 : decode cX4_tally 137 = .ok (.iload_n 3, 1) := by decide +kernel
theorem dX4_tally_138 : decode cX4_tally 138 = .ok (.goto 25, 3) := by decide +kernel
theorem dX4_tally_141 : decode cX4_tally 141 = .ok (.iload_n 2, 1) := by decide +kernel
theorem dX4_tally_142 : decode cX4_tally 142 = .ok (.iconst 1, 1) := by decide +kernel
theorem dX4_tally_143 : decode cX4_tally 143 = .ok (.if_icmp .ne 8, 3) := by decide +kernel
theorem dX4_tally_146 : decode cX4_tally 146 = .ok (.iload 4, 2) := by decide +kernel
theorem dX4_tally_148 : decode cX4_tally 148 = .ok (.goto 15, 3) := by decide +kernel
theorem dX4_tally_151 : decode cX4_tally 151 = .ok (.iload_n 2, 1) := by decide +kernel
theorem dX4_tally_152 : decode cX4_tally 152 = .ok (.iconst 2, 1) := by decide +kernel
theorem dX4_tally_153 : decode cX4_tally 153 = .ok (.if_icmp .ne 8, 3) := by decide +kernel
theorem dX4_tally_156 : decode cX4_tally 156 = .ok (.iload 5, 2) := by decide +kernel
theorem dX4_tally_158 : decode cX4_tally 158 = .ok (.goto 5, 3) := by decide +kernel
theorem dX4_tally_161 : decode cX4_tally 161 = .ok (.iload 6, 2) := by decide +kernel
theorem dX4_tally_163 : decode cX4_tally 163 = .ok (.ireturn, 1) := by decide +kernel
theorem dX4_tally_164 : decode cX4_tally 164 = .ok (.iload 4, 2) := by decide +kernel
theorem dX4_tally_166 : decode cX4_tally 166 = .ok (.iload 5, 2) := by decide +kernel
theorem dX4_tally_168 : decode cX4_tally 168 = .ok (.isub, 1) := by decide +kernel
theorem dX4_tally_169 : decode cX4_tally 169 = .ok (.iload 4, 2) := by decide +kernel
theorem dX4_tally_171 : decode cX4_tally 171 = .ok (.invokestatic 124, 3) := by decide +kernel
theorem dX4_tally_174 : decode cX4_tally 174 = .ok (.istore 7, 2) := by decide +kernel
theorem dX4_tally_176 : decode cX4_tally 176 = .ok (.iload 4, 2) := by decide +kernel
theorem dX4_tally_178 : decode cX4_tally 178 = .ok (.ifCond .ne 8, 3) := by decide +kernel
theorem dX4_tally_181 : decode cX4_tally 181 = .ok (.bipush (-6), 2) := by decide +kernel
theorem dX4_tally_183 : decode cX4_tally 183 = .ok (.goto 24, 3) := by decide +kernel
theorem dX4_tally_186 : decode cX4_tally 186 = .ok (.iload_n 2, 1) := by decide +kernel
theorem dX4_tally_187 : decode cX4_tally 187 = .ok (.iconst 4, 1) := by decide +kernel
theorem dX4_tally_188 : decode cX4_tally 188 = .ok (.if_icmp .ne 14, 3) := by decide +kernel
theorem dX4_tally_191 : decode cX4_tally 191 = .ok (.iload 4, 2) := by decide +kernel
theorem dX4_tally_193 : decode cX4_tally 193 = .ok (.iload 5, 2) := by decide +kernel
theorem dX4_tally_195 : decode cX4_tally 195 = .ok (.isub, 1) := by decide +kernel
theorem dX4_tally_196 : decode cX4_tally 196 = .ok (.iload 7, 2) := by decide +kernel
theorem dX4_tally_198 : decode cX4_tally 198 = .ok (.idiv, 1) := by decide +kernel
theorem dX4_tally_199 : decode cX4_tally 199 = .ok (.goto 8, 3) := by decide +kernel
theorem dX4_tally_202 : decode cX4_tally 202 = .ok (.iload 4, 2) := by decide +kernel
theorem dX4_tally_204 : decode cX4_tally 204 = .ok (.iload 7, 2) := by decide +kernel
theorem dX4_tally_206 : decode cX4_tally 206 = .ok (.idiv, 1) := by decide +kernel
theorem dX4_tally_207 : decode cX4_tally 207 = .ok (.ireturn, 1) := by decide +kernel
set_option maxRecDepth 20000 in
theorem ggX4_ofFate_X4_of : GoodIn wsX4_ofFate wsX4_of := goodIn_r _ [6, 1, 7, 8, 5, 9, 10, 11, 12, 13, 14, 15, 16, 17] (by decide +kernel) (by decide +kernel)
set_option maxRecDepth 20000 in
theorem gX4_ofFate_X4_of : GoodIn wsX4_ofFate (wsV RX4 28 RX4 yX4_of wsX4_of) := goodIn_app (goodIn_of _ (by decide +kernel)) ggX4_ofFate_X4_of
theorem dX4_ofFate_0 : decode cX4_ofFate 0 = .ok (.iconst 0, 1) := by decide +kernel
theorem dX4_ofFate_1 : decode cX4_ofFate 1 = .ok (.istore_n 2, 1) := by decide +kernel
theorem dX4_ofFate_2 : decode cX4_ofFate 2 = .ok (.iconst 0, 1) := by decide +kernel
theorem dX4_ofFate_3 : decode cX4_ofFate 3 = .ok (.istore_n 3, 1) := by decide +kernel
theorem dX4_ofFate_4 : decode cX4_ofFate 4 = .ok (.iload_n 3, 1) := by decide +kernel
theorem dX4_ofFate_5 : decode cX4_ofFate 5 = .ok (.aload_n 0, 1) := by decide +kernel
theorem dX4_ofFate_6 : decode cX4_ofFate 6 = .ok (.getfield 7, 3) := by decide +kernel
theorem dX4_ofFate_9 : decode cX4_ofFate 9 = .ok (.bipush 10, 2) := by decide +kernel
theorem dX4_ofFate_11 : decode cX4_ofFate 11 = .ok (.iaload, 1) := by decide +kernel
theorem dX4_ofFate_12 : decode cX4_ofFate 12 = .ok (.if_icmp .ge 28, 3) := by decide +kernel
theorem dX4_ofFate_15 : decode cX4_ofFate 15 = .ok (.iload_n 2, 1) := by decide +kernel
theorem dX4_ofFate_16 : decode cX4_ofFate 16 = .ok (.aload_n 0, 1) := by decide +kernel
theorem dX4_ofFate_17 : decode cX4_ofFate 17 = .ok (.iload_n 3, 1) := by decide +kernel
theorem dX4_ofFate_18 : decode cX4_ofFate 18 = .ok (.bipush 6, 2) := by decide +kernel
theorem dX4_ofFate_20 : decode cX4_ofFate 20 = .ok (.invokevirtual 28, 3) := by decide +kernel
theorem dX4_ofFate_23 : decode cX4_ofFate 23 = .ok (.iload_n 1, 1) := by decide +kernel
theorem dX4_ofFate_24 : decode cX4_ofFate 24 = .ok (.if_icmp .ne 7, 3) := by decide +kernel
theorem dX4_ofFate_27 : decode cX4_ofFate 27 = .ok (.iconst 1, 1) := by decide +kernel
theorem dX4_ofFate_28 : decode cX4_ofFate 28 = .ok (.goto 4, 3) := by decide +kernel
theorem dX4_ofFate_31 : decode cX4_ofFate 31 = .ok (.iconst 0, 1) := by decide +kernel
theorem dX4_ofFate_32 : decode cX4_ofFate 32 = .ok (.iadd, 1) := by decide +kernel
theorem dX4_ofFate_33 : decode cX4_ofFate 33 = .ok (.istore_n 2, 1) := by decide +kernel
theorem dX4_ofFate_34 : decode cX4_ofFate 34 = .ok (.iinc 3 1, 3) := by decide +kernel
theorem dX4_ofFate_37 : decode cX4_ofFate 37 = .ok (.goto (-33), 3) := by decide +kernel
theorem dX4_ofFate_40 : decode cX4_ofFate 40 = .ok (.iload_n 2, 1) := by decide +kernel
theorem dX4_ofFate_41 : decode cX4_ofFate 41 = .ok (.ireturn, 1) := by decide +kernel
set_option maxRecDepth 20000 in
theorem ggX4_count_X4_in : GoodIn wsX4_count wsX4_in := goodIn_r _ [6] (by decide +kernel) (by decide +kernel)
set_option maxRecDepth 20000 in
theorem gX4_count_X4_in : GoodIn wsX4_count (va_wsS RX4 24 yX4_in wsX4_in) := goodIn_app (goodIn_of _ (by decide +kernel)) ggX4_count_X4_in
set_option maxRecDepth 20000 in
theorem ggX4_count_X4_ofFate : GoodIn wsX4_count wsX4_ofFate := goodIn_r _ [10, 1, 11, 12, 13, 5, 14, 15, 16, 17, 18, 19, 20, 21, 22, 23, 24, 25] (by decide +kernel) (by decide +kernel)
set_option maxRecDepth 20000 in
theorem gX4_count_X4_ofFate : GoodIn wsX4_count (wsV RX4 127 RX4 yX4_ofFate wsX4_ofFate) := goodIn_app (goodIn_of _ (by decide +kernel)) ggX4_count_X4_ofFate
theorem dX4_count_0 : decode cX4_count 0 = .ok (.iload_n 1, 1) := by decide +kernel
theorem dX4_count_1 : decode cX4_count 1 = .ok (.iconst 2, 1) := by decide +kernel
theorem dX4_count_2 : decode cX4_count 2 = .ok (.bipush 6, 2) := by decide +kernel
theorem dX4_count_4 : decode cX4_count 4 = .ok (.invokestatic 24, 3) := by decide +kernel
theorem dX4_count_7 : decode cX4_count 7 = .ok (.ifCond .eq 11, 3) := by decide +kernel
theorem dX4_count_10 : decode cX4_count 10 = .ok (.aload_n 0, 1) := by decide +kernel
theorem dX4_count_11 : decode cX4_count 11 = .ok (.iload_n 1, 1) := by decide +kernel
theorem dX4_count_12 : decode cX4_count 12 = .ok (.iconst 2, 1) := by decide +kernel
theorem dX4_count_13 : decode cX4_count 13 = .ok (.isub, 1) := by decide +kernel
theorem dX4_count_14 : decode cX4_count 14 = .ok (.invokevirtual 127, 3) := by decide +kernel
theorem dX4_count_17 : decode cX4_count 17 = .ok (.ireturn, 1) := by decide +kernel
theorem dX4_count_18 : decode cX4_count 18 = .ok (.iload_n 1, 1) := by decide +kernel
theorem dX4_count_19 : decode cX4_count 19 = .ok (.bipush 10, 2) := by decide +kernel
theorem dX4_count_21 : decode cX4_count 21 = .ok (.bipush 15, 2) := by decide +kernel
theorem dX4_count_23 : decode cX4_count 23 = .ok (.invokestatic 24, 3) := by decide +kernel
theorem dX4_count_26 : decode cX4_count 26 = .ok (.ifCond .eq 13, 3) := by decide +kernel
theorem dX4_count_29 : decode cX4_count 29 = .ok (.aload_n 0, 1) := by decide +kernel
theorem dX4_count_30 : decode cX4_count 30 = .ok (.getfield 7, 3) := by decide +kernel
theorem dX4_count_33 : decode cX4_count 33 = .ok (.iload_n 1, 1) := by decide +kernel
theorem dX4_count_34 : decode cX4_count 34 = .ok (.bipush 10, 2) := by decide +kernel
theorem dX4_count_36 : decode cX4_count 36 = .ok (.isub, 1) := by decide +kernel
theorem dX4_count_37 : decode cX4_count 37 = .ok (.iaload, 1) := by decide +kernel
theorem dX4_count_38 : decode cX4_count 38 = .ok (.ireturn, 1) := by decide +kernel
theorem dX4_count_39 : decode cX4_count 39 = .ok (.iload_n 1, 1) := by decide +kernel
theorem dX4_count_40 : decode cX4_count 40 = .ok (.bipush 20, 2) := by decide +kernel
theorem dX4_count_42 : decode cX4_count 42 = .ok (.bipush 22, 2) := by decide +kernel
theorem dX4_count_44 : decode cX4_count 44 = .ok (.invokestatic 24, 3) := by decide +kernel
theorem dX4_count_47 : decode cX4_count 47 = .ok (.ifCond .eq 16, 3) := by decide +kernel
theorem dX4_count_50 : decode cX4_count 50 = .ok (.aload_n 0, 1) := by decide +kernel
theorem dX4_count_51 : decode cX4_count 51 = .ok (.getfield 7, 3) := by decide +kernel
theorem dX4_count_54 : decode cX4_count 54 = .ok (.bipush 6, 2) := by decide +kernel
theorem dX4_count_56 : decode cX4_count 56 = .ok (.iload_n 1, 1) := by decide +kernel
theorem dX4_count_57 : decode cX4_count 57 = .ok (.iadd, 1) := by decide +kernel
theorem dX4_count_58 : decode cX4_count 58 = .ok (.bipush 20, 2) := by decide +kernel
theorem dX4_count_60 : decode cX4_count 60 = .ok (.isub, 1) := by decide +kernel
theorem dX4_count_61 : decode cX4_count 61 = .ok (.iaload, 1) := by decide +kernel
theorem dX4_count_62 : decode cX4_count 62 = .ok (.ireturn, 1) := by decide +kernel
theorem dX4_count_63 : decode cX4_count 63 = .ok (.iload_n 1, 1) := by decide +kernel
theorem dX4_count_64 : decode cX4_count 64 = .ok (.tableswitch 126 0 9 #[56, 64, 126, 126, 126, 126, 126, 72, 90, 96], 56) := by decide +kernel
theorem dX4_count_120 : decode cX4_count 120 = .ok (.aload_n 0, 1) := by decide +kernel
theorem dX4_count_121 : decode cX4_count 121 = .ok (.getfield 7, 3) := by decide +kernel
theorem dX4_count_124 : decode cX4_count 124 = .ok (.bipush 9, 2) := by decide +kernel
theorem dX4_count_126 : decode cX4_count 126 = .ok (.iaload, 1) := by decide +kernel
theorem dX4_count_127 : decode cX4_count 127 = .ok (.ireturn, 1) := by decide +kernel
theorem dX4_count_128 : decode cX4_count 128 = .ok (.aload_n 0, 1) := by decide +kernel
theorem dX4_count_129 : decode cX4_count 129 = .ok (.getfield 7, 3) := by decide +kernel
theorem dX4_count_132 : decode cX4_count 132 = .ok (.bipush 10, 2) := by decide +kernel
theorem dX4_count_134 : decode cX4_count 134 = .ok (.iaload, 1) := by decide +kernel
theorem dX4_count_135 : decode cX4_count 135 = .ok (.ireturn, 1) := by decide +kernel
theorem dX4_count_136 : decode cX4_count 136 = .ok (.aload_n 0, 1) := by decide +kernel
theorem dX4_count_137 : decode cX4_count 137 = .ok (.iconst 0, 1) := by decide +kernel
theorem dX4_count_138 : decode cX4_count 138 = .ok (.invokevirtual 127, 3) := by decide +kernel
theorem dX4_count_141 : decode cX4_count 141 = .ok (.aload_n 0, 1) := by decide +kernel
theorem dX4_count_142 : decode cX4_count 142 = .ok (.iconst 1, 1) := by decide +kernel
theorem dX4_count_143 : decode cX4_count 143 = .ok (.invokevirtual 127, 3) := by decide +kernel
theorem dX4_count_146 : decode cX4_count 146 = .ok (.iadd, 1) := by decide +kernel
theorem dX4_count_147 : decode cX4_count 147 = .ok (.aload_n 0, 1) := by decide +kernel
theorem dX4_count_148 : decode cX4_count 148 = .ok (.iconst 2, 1) := by decide +kernel
theorem dX4_count_149 : decode cX4_count 149 = .ok (.invokevirtual 127, 3) := by decide +kernel
theorem dX4_count_152 : decode cX4_count 152 = .ok (.iadd, 1) := by decide +kernel
theorem dX4_count_153 : decode cX4_count 153 = .ok (.ireturn, 1) := by decide +kernel
theorem dX4_count_154 : decode cX4_count 154 = .ok (.aload_n 0, 1) := by decide +kernel
theorem dX4_count_155 : decode cX4_count 155 = .ok (.iconst 1, 1) := by decide +kernel
theorem dX4_count_156 : decode cX4_count 156 = .ok (.invokevirtual 127, 3) := by decide +kernel
theorem dX4_count_159 : decode cX4_count 159 = .ok (.ireturn, 1) := by decide +kernel
theorem dX4_count_160 : decode cX4_count 160 = .ok (.aload_n 0, 1) := by decide +kernel
theorem dX4_count_161 : decode cX4_count 161 = .ok (.getfield 16, 3) := by decide +kernel
theorem dX4_count_164 : decode cX4_count 164 = .ok (.iconst 0, 1) := by decide +kernel
theorem dX4_count_165 : decode cX4_count 165 = .ok (.baload, 1) := by decide +kernel
theorem dX4_count_166 : decode cX4_count 166 = .ok (.ifCond .eq 7, 3) := by decide +kernel
theorem dX4_count_169 : decode cX4_count 169 = .ok (.iconst 1, 1) := by decide +kernel
theorem dX4_count_170 : decode cX4_count 170 = .ok (.goto 4, 3) := by decide +kernel
theorem dX4_count_173 : decode cX4_count 173 = .ok (.iconst 0, 1) := by decide +kernel
theorem dX4_count_174 : decode cX4_count 174 = .ok (.aload_n 0, 1) := by decide +kernel
theorem dX4_count_175 : decode cX4_count 175 = .ok (.getfield 16, 3) := by decide +kernel
theorem dX4_count_178 : decode cX4_count 178 = .ok (.iconst 1, 1) := by decide +kernel
theorem dX4_count_179 : decode cX4_count 179 = .ok (.baload, 1) := by decide +kernel
theorem dX4_count_180 : decode cX4_count 180 = .ok (.ifCond .eq 7, 3) := by decide +kernel
theorem dX4_count_183 : decode cX4_count 183 = .ok (.iconst 2, 1) := by decide +kernel
theorem dX4_count_184 : decode cX4_count 184 = .ok (.goto 4, 3) := by decide +kernel
theorem dX4_count_187 : decode cX4_count 187 = .ok (.iconst 0, 1) := by decide +kernel
theorem dX4_count_188 : decode cX4_count 188 = .ok (.iadd, 1) := by decide +kernel
theorem dX4_count_189 : decode cX4_count 189 = .ok (.ireturn, 1) := by decide +kernel
theorem dX4_count_190 : decode cX4_count 190 = .ok (.bipush (-2), 2) := by decide +kernel
theorem dX4_count_192 : decode cX4_count 192 = .ok (.ireturn, 1) := by decide +kernel
set_option maxRecDepth 20000 in
theorem ggX4_image_X4_in : GoodIn wsX4_image wsX4_in := goodIn_r _ [7] (by decide +kernel) (by decide +kernel)
set_option maxRecDepth 20000 in
theorem gX4_image_X4_in : GoodIn wsX4_image (va_wsS RX4 24 yX4_in wsX4_in) := goodIn_app (goodIn_of _ (by decide +kernel)) ggX4_image_X4_in
theorem dX4_image_0 : decode cX4_image 0 = .ok (.iload_n 1, 1) := by decide +kernel
theorem dX4_image_1 : decode cX4_image 1 = .ok (.iconst 0, 1) := by decide +kernel
theorem dX4_image_2 : decode cX4_image 2 = .ok (.iconst 1, 1) := by decide +kernel
theorem dX4_image_3 : decode cX4_image 3 = .ok (.invokestatic 24, 3) := by decide +kernel
theorem dX4_image_6 : decode cX4_image 6 = .ok (.ifCond .ne 6, 3) := by decide +kernel
theorem dX4_image_9 : decode cX4_image 9 = .ok (.bipush (-2), 2) := by decide +kernel
theorem dX4_image_11 : decode cX4_image 11 = .ok (.ireturn, 1) := by decide +kernel
theorem dX4_image_12 : decode cX4_image 12 = .ok (.iconst 0, 1) := by decide +kernel
theorem dX4_image_13 : decode cX4_image 13 = .ok (.istore_n 2, 1) := by decide +kernel
theorem dX4_image_14 : decode cX4_image 14 = .ok (.iload_n 2, 1) := by decide +kernel
theorem dX4_image_15 : decode cX4_image 15 = .ok (.sipush 539, 3) := by decide +kernel
theorem dX4_image_18 : decode cX4_image 18 = .ok (.if_icmp .ge 27, 3) := by decide +kernel
theorem dX4_image_21 : decode cX4_image 21 = .ok (.aload_n 0, 1) := by decide +kernel
theorem dX4_image_22 : decode cX4_image 22 = .ok (.getfield 13, 3) := by decide +kernel
theorem dX4_image_25 : decode cX4_image 25 = .ok (.sipush 539, 3) := by decide +kernel
theorem dX4_image_28 : decode cX4_image 28 = .ok (.iload_n 1, 1) := by decide +kernel
theorem dX4_image_29 : decode cX4_image 29 = .ok (.imul, 1) := by decide +kernel
theorem dX4_image_30 : decode cX4_image 30 = .ok (.iload_n 2, 1) := by decide +kernel
theorem dX4_image_31 : decode cX4_image 31 = .ok (.iadd, 1) := by decide +kernel
theorem dX4_image_32 : decode cX4_image 32 = .ok (.aload_n 0, 1) := by decide +kernel
theorem dX4_image_33 : decode cX4_image 33 = .ok (.getfield 7, 3) := by decide +kernel
theorem dX4_image_36 : decode cX4_image 36 = .ok (.iload_n 2, 1) := by decide +kernel
theorem dX4_image_37 : decode cX4_image 37 = .ok (.iaload, 1) := by decide +kernel
theorem dX4_image_38 : decode cX4_image 38 = .ok (.iastore, 1) := by decide +kernel
theorem dX4_image_39 : decode cX4_image 39 = .ok (.iinc 2 1, 3) := by decide +kernel
theorem dX4_image_42 : decode cX4_image 42 = .ok (.goto (-28), 3) := by decide +kernel
theorem dX4_image_45 : decode cX4_image 45 = .ok (.aload_n 0, 1) := by decide +kernel
theorem dX4_image_46 : decode cX4_image 46 = .ok (.getfield 16, 3) := by decide +kernel
theorem dX4_image_49 : decode cX4_image 49 = .ok (.iload_n 1, 1) := by decide +kernel
theorem dX4_image_50 : decode cX4_image 50 = .ok (.iconst 1, 1) := by decide +kernel
theorem dX4_image_51 : decode cX4_image 51 = .ok (.bastore, 1) := by decide +kernel
theorem dX4_image_52 : decode cX4_image 52 = .ok (.iconst 1, 1) := by decide +kernel
theorem dX4_image_53 : decode cX4_image 53 = .ok (.ireturn, 1) := by decide +kernel
set_option maxRecDepth 20000 in
theorem ggX4_restore_X4_in : GoodIn wsX4_restore wsX4_in := goodIn_r _ [7] (by decide +kernel) (by decide +kernel)
set_option maxRecDepth 20000 in
theorem gX4_restore_X4_in : GoodIn wsX4_restore (va_wsS RX4 24 yX4_in wsX4_in) := goodIn_app (goodIn_of _ (by decide +kernel)) ggX4_restore_X4_in
theorem dX4_restore_0 : decode cX4_restore 0 = .ok (.iload_n 1, 1) := by decide +kernel
theorem dX4_restore_1 : decode cX4_restore 1 = .ok (.iconst 0, 1) := by decide +kernel
theorem dX4_restore_2 : decode cX4_restore 2 = .ok (.iconst 1, 1) := by decide +kernel
theorem dX4_restore_3 : decode cX4_restore 3 = .ok (.invokestatic 24, 3) := by decide +kernel
theorem dX4_restore_6 : decode cX4_restore 6 = .ok (.ifCond .ne 6, 3) := by decide +kernel
theorem dX4_restore_9 : decode cX4_restore 9 = .ok (.bipush (-2), 2) := by decide +kernel
theorem dX4_restore_11 : decode cX4_restore 11 = .ok (.ireturn, 1) := by decide +kernel
theorem dX4_restore_12 : decode cX4_restore 12 = .ok (.aload_n 0, 1) := by decide +kernel
theorem dX4_restore_13 : decode cX4_restore 13 = .ok (.getfield 16, 3) := by decide +kernel
theorem dX4_restore_16 : decode cX4_restore 16 = .ok (.iload_n 1, 1) := by decide +kernel
theorem dX4_restore_17 : decode cX4_restore 17 = .ok (.baload, 1) := by decide +kernel
theorem dX4_restore_18 : decode cX4_restore 18 = .ok (.ifCond .ne 6, 3) := by decide +kernel
theorem dX4_restore_21 : decode cX4_restore 21 = .ok (.bipush (-3), 2) := by decide +kernel
theorem dX4_restore_23 : decode cX4_restore 23 = .ok (.ireturn, 1) := by decide +kernel
theorem dX4_restore_24 : decode cX4_restore 24 = .ok (.iconst 0, 1) := by decide +kernel
theorem dX4_restore_25 : decode cX4_restore 25 = .ok (.istore_n 2, 1) := by decide +kernel
theorem dX4_restore_26 : decode cX4_restore 26 = .ok (.iload_n 2, 1) := by decide +kernel
theorem dX4_restore_27 : decode cX4_restore 27 = .ok (.sipush 539, 3) := by decide +kernel
theorem dX4_restore_30 : decode cX4_restore 30 = .ok (.if_icmp .ge 27, 3) := by decide +kernel
theorem dX4_restore_33 : decode cX4_restore 33 = .ok (.aload_n 0, 1) := by decide +kernel
theorem dX4_restore_34 : decode cX4_restore 34 = .ok (.getfield 7, 3) := by decide +kernel
theorem dX4_restore_37 : decode cX4_restore 37 = .ok (.iload_n 2, 1) := by decide +kernel
theorem dX4_restore_38 : decode cX4_restore 38 = .ok (.aload_n 0, 1) := by decide +kernel
theorem dX4_restore_39 : decode cX4_restore 39 = .ok (.getfield 13, 3) := by decide +kernel
theorem dX4_restore_42 : decode cX4_restore 42 = .ok (.sipush 539, 3) := by decide +kernel
theorem dX4_restore_45 : decode cX4_restore 45 = .ok (.iload_n 1, 1) := by decide +kernel
theorem dX4_restore_46 : decode cX4_restore 46 = .ok (.imul, 1) := by decide +kernel
theorem dX4_restore_47 : decode cX4_restore 47 = .ok (.iload_n 2, 1) := by decide +kernel
theorem dX4_restore_48 : decode cX4_restore 48 = .ok (.iadd, 1) := by decide +kernel
theorem dX4_restore_49 : decode cX4_restore 49 = .ok (.iaload, 1) := by decide +kernel
theorem dX4_restore_50 : decode cX4_restore 50 = .ok (.iastore, 1) := by decide +kernel
theorem dX4_restore_51 : decode cX4_restore 51 = .ok (.iinc 2 1, 3) := by decide +kernel
theorem dX4_restore_54 : decode cX4_restore 54 = .ok (.goto (-28), 3) := by decide +kernel
theorem dX4_restore_57 : decode cX4_restore 57 = .ok (.iconst 1, 1) := by decide +kernel
theorem dX4_restore_58 : decode cX4_restore 58 = .ok (.ireturn, 1) := by decide +kernel
