theorem dX10_freePrefix_44 : decode cX10_freePrefix 44 = .ok (.iconst 1, 1) := by decide +kernel
theorem dX10_freePrefix_45 : decode cX10_freePrefix 45 = .ok (.isub, 1) := by decide +kernel
theorem dX10_freePrefix_46 : decode cX10_freePrefix 46 = .ok (.ireturn, 1) := by decide +kernel
set_option maxRecDepth 20000 in
theorem ggX10_extensions_X10_isWord : GoodIn wsX10_extensions wsX10_isWord := goodIn_r _ [8] rfl (by decide +kernel)
set_option maxRecDepth 20000 in
theorem gX10_extensions_X10_isWord : GoodIn wsX10_extensions (va_wsS RX10 117 yX10_isWord wsX10_isWord) := goodIn_app (goodIn_r _ [5, 6, 7] rfl (by decide +kernel)) ggX10_extensions_X10_isWord
set_option maxRecDepth 20000 in
theorem ggX10_extensions_X10_pushUpToPower : GoodIn wsX10_extensions wsX10_pushUpToPower := goodIn_r _ [12, 4, 1, 13, 14, 15, 16, 17, 18, 19, 20, 21, 22, 23, 24, 25, 26, 27, 28, 29, 30, 31, 32, 33, 34, 35, 36, 37, 38, 39, 40, 41, 42, 43, 44, 45, 46, 47, 48, 49, 50, 51, 52, 53, 54, 55, 56, 57, 58, 59, 60, 61, 62, 63, 68, 69, 70, 71, 72, 73, 74, 75, 76, 77, 78, 79, 80, 81, 82, 83, 84, 85, 86, 87, 88, 89, 90, 91, 92, 93, 94] rfl (by decide +kernel)
set_option maxRecDepth 20000 in
theorem gX10_extensions_X10_pushUpToPower : GoodIn wsX10_extensions (wsV RX10 148 RX10 yX10_pushUpToPower wsX10_pushUpToPower) := goodIn_app (goodIn_r _ [9, 10, 11, 7] rfl (by decide +kernel)) ggX10_extensions_X10_pushUpToPower
set_option maxRecDepth 20000 in
theorem ggX10_extensions_X8_push : GoodIn wsX10_extensions wsX8_push := goodIn_r _ [30, 21, 31, 32, 25, 33, 34, 35, 36, 37, 22, 38, 39, 40, 19, 41, 42, 43, 86, 87, 88, 89, 90, 91, 92, 93, 94] rfl (by decide +kernel)
set_option maxRecDepth 20000 in
theorem gX10_extensions_X8_push : GoodIn wsX10_extensions (wsV RX10 153 RX8 yX8_push wsX8_push) := goodIn_app (goodIn_r _ [27, 28, 29, 19] rfl (by decide +kernel)) ggX10_extensions_X8_push
set_option maxRecDepth 20000 in
theorem ggX10_extensions_X8_shortestPowerAtEnd : GoodIn wsX10_extensions wsX8_shortestPowerAtEnd := goodIn_r _ [47, 21, 24, 48, 49, 50, 19, 51, 52, 53, 54, 55, 22, 32, 31, 56, 57, 58, 59, 60, 61, 62, 63, 42, 43, 86, 87, 88, 89, 90, 91, 92, 93, 94] rfl (by decide +kernel)
set_option maxRecDepth 20000 in
theorem gX10_extensions_X8_shortestPowerAtEnd : GoodIn wsX10_extensions (wsV RX10 159 RX8 yX8_shortestPowerAtEnd wsX8_shortestPowerAtEnd) := goodIn_app (goodIn_r _ [44, 45, 46, 19] rfl (by decide +kernel)) ggX10_extensions_X8_shortestPowerAtEnd
set_option maxRecDepth 20000 in
theorem ggX10_extensions_X8_pop : GoodIn wsX10_extensions wsX8_pop := goodIn_r _ [67, 21, 31, 86, 87, 88, 89, 90, 91, 92, 93, 94] rfl (by decide +kernel)
set_option maxRecDepth 20000 in
theorem gX10_extensions_X8_pop : GoodIn wsX10_extensions (wsV RX10 162 RX8 yX8_pop wsX8_pop) := goodIn_app (goodIn_r _ [64, 65, 66, 19] rfl (by decide +kernel)) ggX10_extensions_X8_pop
theorem dX10_extensions_0 : decode cX10_extensions 0 = .ok (.iload_n 1, 1) := by decide +kernel
theorem dX10_extensions_1 : decode cX10_extensions 1 = .ok (.invokestatic 117, 3) := by decide +kernel
theorem dX10_extensions_4 : decode cX10_extensions 4 = .ok (.ifCond .ne 5, 3) := by decide +kernel
theorem dX10_extensions_7 : decode cX10_extensions 7 = .ok (.iconst (-1), 1) := by decide +kernel
theorem dX10_extensions_8 : decode cX10_extensions 8 = .ok (.ireturn, 1) := by decide +kernel
theorem dX10_extensions_9 : decode cX10_extensions 9 = .ok (.aload_n 0, 1) := by decide +kernel
theorem dX10_extensions_10 : decode cX10_extensions 10 = .ok (.aload_n 0, 1) := by decide +kernel
theorem dX10_extensions_11 : decode cX10_extensions 11 = .ok (.getfield 19, 3) := by decide +kernel
theorem dX10_extensions_14 : decode cX10_extensions 14 = .ok (.getfield 120, 3) := by decide +kernel
theorem dX10_extensions_17 : decode cX10_extensions 17 = .ok (.iload_n 1, 1) := by decide +kernel
theorem dX10_extensions_18 : decode cX10_extensions 18 = .ok (.aaload, 1) := by decide +kernel
theorem dX10_extensions_19 : decode cX10_extensions 19 = .ok (.invokevirtual 148, 3) := by decide +kernel
theorem dX10_extensions_22 : decode cX10_extensions 22 = .ok (.ifCond .eq 6, 3) := by decide +kernel
theorem dX10_extensions_25 : decode cX10_extensions 25 = .ok (.bipush (-5), 2) := by decide +kernel
theorem dX10_extensions_27 : decode cX10_extensions 27 = .ok (.ireturn, 1) := by decide +kernel
theorem dX10_extensions_28 : decode cX10_extensions 28 = .ok (.iconst 0, 1) := by decide +kernel
theorem dX10_extensions_29 : decode cX10_extensions 29 = .ok (.istore_n 2, 1) := by decide +kernel
theorem dX10_extensions_30 : decode cX10_extensions 30 = .ok (.iconst 0, 1) := by decide +kernel
theorem dX10_extensions_31 : decode cX10_extensions 31 = .ok (.istore_n 3, 1) := by decide +kernel
theorem dX10_extensions_32 : decode cX10_extensions 32 = .ok (.iload_n 3, 1) := by decide +kernel
theorem dX10_extensions_33 : decode cX10_extensions 33 = .ok (.aload_n 0, 1) := by decide +kernel
theorem dX10_extensions_34 : decode cX10_extensions 34 = .ok (.getfield 19, 3) := by decide +kernel
theorem dX10_extensions_37 : decode cX10_extensions 37 = .ok (.getfield 103, 3) := by decide +kernel
theorem dX10_extensions_40 : decode cX10_extensions 40 = .ok (.if_icmp .ge 41, 3) := by decide +kernel
theorem dX10_extensions_43 : decode cX10_extensions 43 = .ok (.aload_n 0, 1) := by decide +kernel
theorem dX10_extensions_44 : decode cX10_extensions 44 = .ok (.getfield 38, 3) := by decide +kernel
theorem dX10_extensions_47 : decode cX10_extensions 47 = .ok (.iload_n 3, 1) := by decide +kernel
theorem dX10_extensions_48 : decode cX10_extensions 48 = .ok (.invokevirtual 153, 3) := by decide +kernel
theorem dX10_extensions_51 : decode cX10_extensions 51 = .ok (.aload_n 0, 1) := by decide +kernel
theorem dX10_extensions_52 : decode cX10_extensions 52 = .ok (.getfield 38, 3) := by decide +kernel
theorem dX10_extensions_55 : decode cX10_extensions 55 = .ok (.invokevirtual 159, 3) := by decide +kernel
theorem dX10_extensions_58 : decode cX10_extensions 58 = .ok (.ifCond .ne 9, 3) := by decide +kernel
theorem dX10_extensions_61 : decode cX10_extensions 61 = .ok (.iload_n 2, 1) := by decide +kernel
theorem dX10_extensions_62 : decode cX10_extensions 62 = .ok (.iconst 1, 1) := by decide +kernel
theorem dX10_extensions_63 : decode cX10_extensions 63 = .ok (.iload_n 3, 1) := by decide +kernel
theorem dX10_extensions_64 : decode cX10_extensions 64 = .ok (.ishl, 1) := by decide +kernel
theorem dX10_extensions_65 : decode cX10_extensions 65 = .ok (.ior, 1) := by decide +kernel
theorem dX10_extensions_66 : decode cX10_extensions 66 = .ok (.istore_n 2, 1) := by decide +kernel
theorem dX10_extensions_67 : decode cX10_extensions 67 = .ok (.aload_n 0, 1) := by decide +kernel
theorem dX10_extensions_68 : decode cX10_extensions 68 = .ok (.getfield 38, 3) := by decide +kernel
theorem dX10_extensions_71 : decode cX10_extensions 71 = .ok (.invokevirtual 162, 3) := by decide +kernel
theorem dX10_extensions_74 : decode cX10_extensions 74 = .ok (.pop, 1) := by decide +kernel
theorem dX10_extensions_75 : decode cX10_extensions 75 = .ok (.iinc 3 1, 3) := by decide +kernel
theorem dX10_extensions_78 : decode cX10_extensions 78 = .ok (.goto (-46), 3) := by decide +kernel
theorem dX10_extensions_81 : decode cX10_extensions 81 = .ok (.iload_n 2, 1) := by decide +kernel
theorem dX10_extensions_82 : decode cX10_extensions 82 = .ok (.ireturn, 1) := by decide +kernel
set_option maxRecDepth 20000 in
theorem ggX10_pushUpToPower_X8_begin : GoodIn wsX10_pushUpToPower wsX8_begin := goodIn_r _ [10, 11, 12, 13, 14, 15, 16, 72, 73, 74, 75, 76, 77, 78, 79, 80, 64, 65, 66, 67, 68, 69] rfl (by decide +kernel)
set_option maxRecDepth 20000 in
theorem gX10_pushUpToPower_X8_begin : GoodIn wsX10_pushUpToPower (wsV RX10 136 RX8 yX8_begin wsX8_begin) := goodIn_app (goodIn_r _ [6, 7, 8, 9] rfl (by decide +kernel)) ggX10_pushUpToPower_X8_begin
set_option maxRecDepth 20000 in
theorem ggX10_pushUpToPower_X8_push : GoodIn wsX10_pushUpToPower wsX8_push := goodIn_r _ [20, 11, 21, 22, 15, 23, 24, 25, 26, 27, 12, 28, 29, 30, 9, 31, 32, 33, 72, 73, 74, 75, 76, 77, 78, 79, 80] rfl (by decide +kernel)
set_option maxRecDepth 20000 in
theorem gX10_pushUpToPower_X8_push : GoodIn wsX10_pushUpToPower (wsV RX10 153 RX8 yX8_push wsX8_push) := goodIn_app (goodIn_r _ [17, 18, 19, 9] rfl (by decide +kernel)) ggX10_pushUpToPower_X8_push
set_option maxRecDepth 20000 in
theorem ggX10_pushUpToPower_X8_shortestPowerAtEnd : GoodIn wsX10_pushUpToPower wsX8_shortestPowerAtEnd := goodIn_r _ [37, 11, 14, 38, 39, 40, 9, 41, 42, 43, 44, 45, 12, 22, 21, 46, 47, 48, 49, 50, 51, 52, 53, 32, 33, 72, 73, 74, 75, 76, 77, 78, 79, 80] rfl (by decide +kernel)
set_option maxRecDepth 20000 in
theorem gX10_pushUpToPower_X8_shortestPowerAtEnd : GoodIn wsX10_pushUpToPower (wsV RX10 159 RX8 yX8_shortestPowerAtEnd wsX8_shortestPowerAtEnd) := goodIn_app (goodIn_r _ [34, 35, 36, 9] rfl (by decide +kernel)) ggX10_pushUpToPower_X8_shortestPowerAtEnd
theorem dX10_pushUpToPower_0 : decode cX10_pushUpToPower 0 = .ok (.aload_n 0, 1) := by decide +kernel
theorem dX10_pushUpToPower_1 : decode cX10_pushUpToPower 1 = .ok (.getfield 38, 3) := by decide +kernel
theorem dX10_pushUpToPower_4 : decode cX10_pushUpToPower 4 = .ok (.aload_n 0, 1) := by decide +kernel
theorem dX10_pushUpToPower_5 : decode cX10_pushUpToPower 5 = .ok (.getfield 19, 3) := by decide +kernel
theorem dX10_pushUpToPower_8 : decode cX10_pushUpToPower 8 = .ok (.getfield 97, 3) := by decide +kernel
theorem dX10_pushUpToPower_11 : decode cX10_pushUpToPower 11 = .ok (.aload_n 0, 1) := by decide +kernel
theorem dX10_pushUpToPower_12 : decode cX10_pushUpToPower 12 = .ok (.getfield 19, 3) := by decide +kernel
theorem dX10_pushUpToPower_15 : decode cX10_pushUpToPower 15 = .ok (.invokevirtual 136, 3) := by decide +kernel
theorem dX10_pushUpToPower_18 : decode cX10_pushUpToPower 18 = .ok (.iconst 0, 1) := by decide +kernel
theorem dX10_pushUpToPower_19 : decode cX10_pushUpToPower 19 = .ok (.istore_n 2, 1) := by decide +kernel
theorem dX10_pushUpToPower_20 : decode cX10_pushUpToPower 20 = .ok (.iload_n 2, 1) := by decide +kernel
theorem dX10_pushUpToPower_21 : decode cX10_pushUpToPower 21 = .ok (.aload_n 1, 1) := by decide +kernel
theorem dX10_pushUpToPower_22 : decode cX10_pushUpToPower 22 = .ok (.getfield 124, 3) := by decide +kernel
theorem dX10_pushUpToPower_25 : decode cX10_pushUpToPower 25 = .ok (.if_icmp .ge 36, 3) := by decide +kernel
theorem dX10_pushUpToPower_28 : decode cX10_pushUpToPower 28 = .ok (.aload_n 0, 1) := by decide +kernel
theorem dX10_pushUpToPower_29 : decode cX10_pushUpToPower 29 = .ok (.getfield 38, 3) := by decide +kernel
theorem dX10_pushUpToPower_32 : decode cX10_pushUpToPower 32 = .ok (.aload_n 1, 1) := by decide +kernel
theorem dX10_pushUpToPower_33 : decode cX10_pushUpToPower 33 = .ok (.getfield 126, 3) := by decide +kernel
theorem dX10_pushUpToPower_36 : decode cX10_pushUpToPower 36 = .ok (.iload_n 2, 1) := by decide +kernel
theorem dX10_pushUpToPower_37 : decode cX10_pushUpToPower 37 = .ok (.iaload, 1) := by decide +kernel
theorem dX10_pushUpToPower_38 : decode cX10_pushUpToPower 38 = .ok (.invokevirtual 153, 3) := by decide +kernel
theorem dX10_pushUpToPower_41 : decode cX10_pushUpToPower 41 = .ok (.aload_n 0, 1) := by decide +kernel
theorem dX10_pushUpToPower_42 : decode cX10_pushUpToPower 42 = .ok (.getfield 38, 3) := by decide +kernel
theorem dX10_pushUpToPower_45 : decode cX10_pushUpToPower 45 = .ok (.invokevirtual 159, 3) := by decide +kernel
theorem dX10_pushUpToPower_48 : decode cX10_pushUpToPower 48 = .ok (.istore_n 3, 1) := by decide +kernel
theorem dX10_pushUpToPower_49 : decode cX10_pushUpToPower 49 = .ok (.iload_n 3, 1) := by decide +kernel
theorem dX10_pushUpToPower_50 : decode cX10_pushUpToPower 50 = .ok (.ifCond .eq 5, 3) := by decide +kernel
theorem dX10_pushUpToPower_53 : decode cX10_pushUpToPower 53 = .ok (.iload_n 3, 1) := by decide +kernel
theorem dX10_pushUpToPower_54 : decode cX10_pushUpToPower 54 = .ok (.ireturn, 1) := by decide +kernel
theorem dX10_pushUpToPower_55 : decode cX10_pushUpToPower 55 = .ok (.iinc 2 1, 3) := by decide +kernel
theorem dX10_pushUpToPower_58 : decode cX10_pushUpToPower 58 = .ok (.goto (-38), 3) := by decide +kernel
theorem dX10_pushUpToPower_61 : decode cX10_pushUpToPower 61 = .ok (.iconst 0, 1) := by decide +kernel
theorem dX10_pushUpToPower_62 : decode cX10_pushUpToPower 62 = .ok (.ireturn, 1) := by decide +kernel
set_option maxRecDepth 20000 in
theorem ggX10_smallestFree_X10_isWord : GoodIn wsX10_smallestFree wsX10_isWord := goodIn_r _ [10] rfl (by decide +kernel)
set_option maxRecDepth 20000 in
theorem gX10_smallestFree_X10_isWord : GoodIn wsX10_smallestFree (va_wsS RX10 117 yX10_isWord wsX10_isWord) := goodIn_app (goodIn_r _ [7, 8, 9] rfl (by decide +kernel)) ggX10_smallestFree_X10_isWord
set_option maxRecDepth 20000 in
theorem ggX10_smallestFree_X8_begin : GoodIn wsX10_smallestFree wsX8_begin := goodIn_r _ [15, 16, 17, 18, 19, 20, 21, 100, 101, 102, 103, 104, 105, 106, 107, 108, 94, 95, 96, 97, 98, 99] rfl (by decide +kernel)
set_option maxRecDepth 20000 in
theorem gX10_smallestFree_X8_begin : GoodIn wsX10_smallestFree (wsV RX10 136 RX8 yX8_begin wsX8_begin) := goodIn_app (goodIn_r _ [11, 12, 13, 14] rfl (by decide +kernel)) ggX10_smallestFree_X8_begin
set_option maxRecDepth 20000 in
theorem ggX10_smallestFree_X4_seek : GoodIn wsX10_smallestFree wsX4_seek := goodIn_r _ [26, 27, 28, 29, 30, 31, 32, 33, 34, 35, 36, 14, 37, 16, 38, 39, 40, 41, 42, 43, 20, 44, 45, 17, 46, 47, 48, 49, 50, 51, 52, 53, 54, 55, 19, 56, 57, 58, 59, 60, 61, 62, 63, 64, 65, 66, 67, 68, 69, 70, 71, 109, 100, 101, 102, 103, 104, 105, 106, 107, 108] rfl (by decide +kernel)
set_option maxRecDepth 20000 in
theorem gX10_smallestFree_X4_seek : GoodIn wsX10_smallestFree (wsV RX10 165 RX4 yX4_seek wsX4_seek) := goodIn_app (goodIn_r _ [22, 23, 24, 25] rfl (by decide +kernel)) ggX10_smallestFree_X4_seek
set_option maxRecDepth 20000 in
theorem ggX10_smallestFree_X8_copyTo : GoodIn wsX10_smallestFree wsX8_copyTo := goodIn_r _ [75, 76, 16, 38, 77, 78, 79, 80, 81, 82, 83, 110, 111, 100, 101, 102, 103, 104, 105, 106, 107, 108] rfl (by decide +kernel)
set_option maxRecDepth 20000 in
theorem gX10_smallestFree_X8_copyTo : GoodIn wsX10_smallestFree (wsV RX10 169 RX8 yX8_copyTo wsX8_copyTo) := goodIn_app (goodIn_r _ [72, 73, 74, 14] rfl (by decide +kernel)) ggX10_smallestFree_X8_copyTo
theorem dX10_smallestFree_0 : decode cX10_smallestFree 0 = .ok (.iload_n 1, 1) := by decide +kernel
theorem dX10_smallestFree_1 : decode cX10_smallestFree 1 = .ok (.iconst 1, 1) := by decide +kernel
theorem dX10_smallestFree_2 : decode cX10_smallestFree 2 = .ok (.if_icmp .lt 16, 3) := by decide +kernel
theorem dX10_smallestFree_5 : decode cX10_smallestFree 5 = .ok (.iload_n 1, 1) := by decide +kernel
theorem dX10_smallestFree_6 : decode cX10_smallestFree 6 = .ok (.bipush 30, 2) := by decide +kernel
theorem dX10_smallestFree_8 : decode cX10_smallestFree 8 = .ok (.if_icmp .gt 10, 3) := by decide +kernel
theorem dX10_smallestFree_11 : decode cX10_smallestFree 11 = .ok (.iload_n 2, 1) := by decide +kernel
theorem dX10_smallestFree_12 : decode cX10_smallestFree 12 = .ok (.invokestatic 117, 3) := by decide +kernel
theorem dX10_smallestFree_15 : decode cX10_smallestFree 15 = .ok (.ifCond .ne 5, 3) := by decide +kernel
theorem dX10_smallestFree_18 : decode cX10_smallestFree 18 = .ok (.iconst (-1), 1) := by decide +kernel
theorem dX10_smallestFree_19 : decode cX10_smallestFree 19 = .ok (.ireturn, 1) := by decide +kernel
theorem dX10_smallestFree_20 : decode cX10_smallestFree 20 = .ok (.aload_n 0, 1) := by decide +kernel
theorem dX10_smallestFree_21 : decode cX10_smallestFree 21 = .ok (.getfield 38, 3) := by decide +kernel
theorem dX10_smallestFree_24 : decode cX10_smallestFree 24 = .ok (.aload_n 0, 1) := by decide +kernel
theorem dX10_smallestFree_25 : decode cX10_smallestFree 25 = .ok (.getfield 19, 3) := by decide +kernel
theorem dX10_smallestFree_28 : decode cX10_smallestFree 28 = .ok (.getfield 97, 3) := by decide +kernel
theorem dX10_smallestFree_31 : decode cX10_smallestFree 31 = .ok (.aload_n 0, 1) := by decide +kernel
theorem dX10_smallestFree_32 : decode cX10_smallestFree 32 = .ok (.getfield 19, 3) := by decide +kernel
theorem dX10_smallestFree_35 : decode cX10_smallestFree 35 = .ok (.invokevirtual 136, 3) := by decide +kernel
theorem dX10_smallestFree_38 : decode cX10_smallestFree 38 = .ok (.aload_n 0, 1) := by decide +kernel
theorem dX10_smallestFree_39 : decode cX10_smallestFree 39 = .ok (.getfield 45, 3) := by decide +kernel
theorem dX10_smallestFree_42 : decode cX10_smallestFree 42 = .ok (.aload_n 0, 1) := by decide +kernel
theorem dX10_smallestFree_43 : decode cX10_smallestFree 43 = .ok (.getfield 38, 3) := by decide +kernel
theorem dX10_smallestFree_46 : decode cX10_smallestFree 46 = .ok (.iload_n 1, 1) := by decide +kernel
theorem dX10_smallestFree_47 : decode cX10_smallestFree 47 = .ok (.aload_n 0, 1) := by decide +kernel
theorem dX10_smallestFree_48 : decode cX10_smallestFree 48 = .ok (.getfield 19, 3) := by decide +kernel
theorem dX10_smallestFree_51 : decode cX10_smallestFree 51 = .ok (.getfield 103, 3) := by decide +kernel
theorem dX10_smallestFree_54 : decode cX10_smallestFree 54 = .ok (.invokevirtual 165, 3) := by decide +kernel
theorem dX10_smallestFree_57 : decode cX10_smallestFree 57 = .ok (.istore_n 3, 1) := by decide +kernel
theorem dX10_smallestFree_58 : decode cX10_smallestFree 58 = .ok (.iload_n 3, 1) := by decide +kernel
theorem dX10_smallestFree_59 : decode cX10_smallestFree 59 = .ok (.ifCond .le 19, 3) := by decide +kernel
theorem dX10_smallestFree_62 : decode cX10_smallestFree 62 = .ok (.aload_n 0, 1) := by decide +kernel
theorem dX10_smallestFree_63 : decode cX10_smallestFree 63 = .ok (.getfield 38, 3) := by decide +kernel
theorem dX10_smallestFree_66 : decode cX10_smallestFree 66 = .ok (.aload_n 0, 1) := by decide +kernel
theorem dX10_smallestFree_67 : decode cX10_smallestFree 67 = .ok (.getfield 19, 3) := by decide +kernel
theorem dX10_smallestFree_70 : decode cX10_smallestFree 70 = .ok (.getfield 120, 3) := by decide +kernel
theorem dX10_smallestFree_73 : decode cX10_smallestFree 73 = .ok (.iload_n 2, 1) := by decide +kernel
theorem dX10_smallestFree_74 : decode cX10_smallestFree 74 = .ok (.aaload, 1) := by decide +kernel
theorem dX10_smallestFree_75 : decode cX10_smallestFree 75 = .ok (.invokevirtual 169, 3) := by decide +kernel
theorem dX10_smallestFree_78 : decode cX10_smallestFree 78 = .ok (.iload_n 3, 1) := by decide +kernel
theorem dX10_smallestFree_79 : decode cX10_smallestFree 79 = .ok (.ireturn, 1) := by decide +kernel
set_option maxRecDepth 20000 in
theorem ggX10_countFree_X8_begin : GoodIn wsX10_countFree wsX8_begin := goodIn_r _ [9, 10, 11, 12, 13, 14, 15, 83, 84, 85, 86, 87, 88, 89, 90, 91, 77, 78, 79, 80, 81, 82] rfl (by decide +kernel)
set_option maxRecDepth 20000 in
theorem gX10_countFree_X8_begin : GoodIn wsX10_countFree (wsV RX10 136 RX8 yX8_begin wsX8_begin) := goodIn_app (goodIn_r _ [5, 6, 7, 8] rfl (by decide +kernel)) ggX10_countFree_X8_begin
set_option maxRecDepth 20000 in
theorem ggX10_countFree_X4_countWords : GoodIn wsX10_countFree wsX4_countWords := goodIn_r _ [19, 20, 21, 22, 23, 24, 25, 26, 27, 28, 29, 8, 30, 10, 31, 32, 33, 34, 35, 36, 14, 37, 38, 39, 40, 11, 41, 42, 43, 44, 45, 46, 47, 48, 49, 50, 13, 51, 52, 53, 54, 55, 56, 57, 58, 59, 60, 61, 62, 63, 64, 65, 66, 83, 84, 85, 86, 87, 88, 89, 90, 91] rfl (by decide +kernel)
set_option maxRecDepth 20000 in
theorem gX10_countFree_X4_countWords : GoodIn wsX10_countFree (va_wsS RX10 172 yX4_countWords wsX4_countWords) := goodIn_app (goodIn_r _ [16, 17, 18] rfl (by decide +kernel)) ggX10_countFree_X4_countWords
theorem dX10_countFree_0 : decode cX10_countFree 0 = .ok (.iload_n 1, 1) := by decide +kernel
theorem dX10_countFree_1 : decode cX10_countFree 1 = .ok (.ifCond .lt 9, 3) := by decide +kernel
theorem dX10_countFree_4 : decode cX10_countFree 4 = .ok (.iload_n 1, 1) := by decide +kernel
theorem dX10_countFree_5 : decode cX10_countFree 5 = .ok (.bipush 8, 2) := by decide +kernel
theorem dX10_countFree_7 : decode cX10_countFree 7 = .ok (.if_icmp .le 5, 3) := by decide +kernel
theorem dX10_countFree_10 : decode cX10_countFree 10 = .ok (.iconst (-1), 1) := by decide +kernel
theorem dX10_countFree_11 : decode cX10_countFree 11 = .ok (.ireturn, 1) := by decide +kernel
theorem dX10_countFree_12 : decode cX10_countFree 12 = .ok (.aload_n 0, 1) := by decide +kernel
theorem dX10_countFree_13 : decode cX10_countFree 13 = .ok (.getfield 38, 3) := by decide +kernel
theorem dX10_countFree_16 : decode cX10_countFree 16 = .ok (.aload_n 0, 1) := by decide +kernel
theorem dX10_countFree_17 : decode cX10_countFree 17 = .ok (.getfield 19, 3) := by decide +kernel
theorem dX10_countFree_20 : decode cX10_countFree 20 = .ok (.getfield 97, 3) := by decide +kernel
theorem dX10_countFree_23 : decode cX10_countFree 23 = .ok (.aload_n 0, 1) := by decide +kernel
theorem dX10_countFree_24 : decode cX10_countFree 24 = .ok (.getfield 19, 3) := by decide +kernel
theorem dX10_countFree_27 : decode cX10_countFree 27 = .ok (.invokevirtual 136, 3) := by decide +kernel
theorem dX10_countFree_30 : decode cX10_countFree 30 = .ok (.aload_n 0, 1) := by decide +kernel
theorem dX10_countFree_31 : decode cX10_countFree 31 = .ok (.getfield 38, 3) := by decide +kernel
theorem dX10_countFree_34 : decode cX10_countFree 34 = .ok (.iload_n 1, 1) := by decide +kernel
theorem dX10_countFree_35 : decode cX10_countFree 35 = .ok (.aload_n 0, 1) := by decide +kernel
theorem dX10_countFree_36 : decode cX10_countFree 36 = .ok (.getfield 19, 3) := by decide +kernel
theorem dX10_countFree_39 : decode cX10_countFree 39 = .ok (.getfield 103, 3) := by decide +kernel
theorem dX10_countFree_42 : decode cX10_countFree 42 = .ok (.iconst 0, 1) := by decide +kernel
theorem dX10_countFree_43 : decode cX10_countFree 43 = .ok (.invokestatic 172, 3) := by decide +kernel
theorem dX10_countFree_46 : decode cX10_countFree 46 = .ok (.ireturn, 1) := by decide +kernel
set_option maxRecDepth 20000 in
theorem ggX10_countNormal_X8_begin : GoodIn wsX10_countNormal wsX8_begin := goodIn_r _ [9, 10, 11, 12, 13, 14, 15, 83, 84, 85, 86, 87, 88, 89, 90, 91, 77, 78, 79, 80, 81, 82] rfl (by decide +kernel)
set_option maxRecDepth 20000 in
theorem gX10_countNormal_X8_begin : GoodIn wsX10_countNormal (wsV RX10 136 RX8 yX8_begin wsX8_begin) := goodIn_app (goodIn_r _ [5, 6, 7, 8] rfl (by decide +kernel)) ggX10_countNormal_X8_begin
set_option maxRecDepth 20000 in
theorem ggX10_countNormal_X4_countWords : GoodIn wsX10_countNormal wsX4_countWords := goodIn_r _ [19, 20, 21, 22, 23, 24, 25, 26, 27, 28, 29, 8, 30, 10, 31, 32, 33, 34, 35, 36, 14, 37, 38, 39, 40, 11, 41, 42, 43, 44, 45, 46, 47, 48, 49, 50, 13, 51, 52, 53, 54, 55, 56, 57, 58, 59, 60, 61, 62, 63, 64, 65, 66, 83, 84, 85, 86, 87, 88, 89, 90, 91] rfl (by decide +kernel)
set_option maxRecDepth 20000 in
theorem gX10_countNormal_X4_countWords : GoodIn wsX10_countNormal (va_wsS RX10 172 yX4_countWords wsX4_countWords) := goodIn_app (goodIn_r _ [16, 17, 18] rfl (by decide +kernel)) ggX10_countNormal_X4_countWords
theorem dX10_countNormal_0 : decode cX10_countNormal 0 = .ok (.iload_n 1, 1) := by decide +kernel
theorem dX10_countNormal_1 : decode cX10_countNormal 1 = .ok (.ifCond .lt 9, 3) := by decide +kernel
theorem dX10_countNormal_4 : decode cX10_countNormal 4 = .ok (.iload_n 1, 1) := by decide +kernel
theorem dX10_countNormal_5 : decode cX10_countNormal 5 = .ok (.bipush 8, 2) := by decide +kernel
theorem dX10_countNormal_7 : decode cX10_countNormal 7 = .ok (.if_icmp .le 5, 3) := by decide +kernel
theorem dX10_countNormal_10 : decode cX10_countNormal 10 = .ok (.iconst (-1), 1) := by decide +kernel
theorem dX10_countNormal_11 : decode cX10_countNormal 11 = .ok (.ireturn, 1) := by decide +kernel
theorem dX10_countNormal_12 : decode cX10_countNormal 12 = .ok (.aload_n 0, 1) := by decide +kernel
theorem dX10_countNormal_13 : decode cX10_countNormal 13 = .ok (.getfield 38, 3) := by decide +kernel
theorem dX10_countNormal_16 : decode cX10_countNormal 16 = .ok (.aload_n 0, 1) := by decide +kernel
theorem dX10_countNormal_17 : decode cX10_countNormal 17 = .ok (.getfield 19, 3) := by decide +kernel
theorem dX10_countNormal_20 : decode cX10_countNormal 20 = .ok (.getfield 97, 3) := by decide +kernel
theorem dX10_countNormal_23 : decode cX10_countNormal 23 = .ok (.aload_n 0, 1) := by decide +kernel
theorem dX10_countNormal_24 : decode cX10_countNormal 24 = .ok (.getfield 19, 3) := by decide +kernel
theorem dX10_countNormal_27 : decode cX10_countNormal 27 = .ok (.invokevirtual 136, 3) := by decide +kernel
theorem dX10_countNormal_30 : decode cX10_countNormal 30 = .ok (.aload_n 0, 1) := by decide +kernel
theorem dX10_countNormal_31 : decode cX10_countNormal 31 = .ok (.getfield 38, 3) := by decide +kernel
theorem dX10_countNormal_34 : decode cX10_countNormal 34 = .ok (.iload_n 1, 1) := by decide +kernel
theorem dX10_countNormal_35 : decode cX10_countNormal 35 = .ok (.aload_n 0, 1) := by decide +kernel
theorem dX10_countNormal_36 : decode cX10_countNormal 36 = .ok (.getfield 19, 3) := by decide +kernel
theorem dX10_countNormal_39 : decode cX10_countNormal 39 = .ok (.getfield 103, 3) := by decide +kernel
theorem dX10_countNormal_42 : decode cX10_countNormal 42 = .ok (.iconst 1, 1) := by decide +kernel
theorem dX10_countNormal_43 : decode cX10_countNormal 43 = .ok (.invokestatic 172, 3) := by decide +kernel
theorem dX10_countNormal_46 : decode cX10_countNormal 46 = .ok (.ireturn, 1) := by decide +kernel
set_option maxRecDepth 20000 in
theorem ggX10_longestFree_X8_begin : GoodIn wsX10_longestFree wsX8_begin := goodIn_r _ [11, 12, 13, 14, 15, 16, 17, 85, 86, 87, 88, 89, 90, 91, 92, 93, 78, 79, 80, 81, 82, 83] rfl (by decide +kernel)
set_option maxRecDepth 20000 in
theorem gX10_longestFree_X8_begin : GoodIn wsX10_longestFree (wsV RX10 136 RX8 yX8_begin wsX8_begin) := goodIn_app (goodIn_r _ [7, 8, 9, 10] rfl (by decide +kernel)) ggX10_longestFree_X8_begin
set_option maxRecDepth 20000 in
theorem ggX10_longestFree_X4_seek : GoodIn wsX10_longestFree wsX4_seek := goodIn_r _ [22, 23, 24, 25, 26, 27, 28, 29, 30, 31, 32, 10, 33, 12, 34, 35, 36, 37, 38, 39, 16, 40, 41, 13, 42, 43, 44, 45, 46, 47, 48, 49, 50, 51, 15, 52, 53, 54, 55, 56, 57, 58, 59, 60, 61, 62, 63, 64, 65, 66, 67, 84, 85, 86, 87, 88, 89, 90, 91, 92, 93] rfl (by decide +kernel)
set_option maxRecDepth 20000 in
theorem gX10_longestFree_X4_seek : GoodIn wsX10_longestFree (wsV RX10 165 RX4 yX4_seek wsX4_seek) := goodIn_app (goodIn_r _ [18, 19, 20, 21] rfl (by decide +kernel)) ggX10_longestFree_X4_seek
theorem dX10_longestFree_0 : decode cX10_longestFree 0 = .ok (.aload_n 0, 1) := by decide +kernel
theorem dX10_longestFree_1 : decode cX10_longestFree 1 = .ok (.getfield 38, 3) := by decide +kernel
theorem dX10_longestFree_4 : decode cX10_longestFree 4 = .ok (.aload_n 0, 1) := by decide +kernel
theorem dX10_longestFree_5 : decode cX10_longestFree 5 = .ok (.getfield 19, 3) := by decide +kernel
theorem dX10_longestFree_8 : decode cX10_longestFree 8 = .ok (.getfield 97, 3) := by decide +kernel
theorem dX10_longestFree_11 : decode cX10_longestFree 11 = .ok (.aload_n 0, 1) := by decide +kernel
theorem dX10_longestFree_12 : decode cX10_longestFree 12 = .ok (.getfield 19, 3) := by decide +kernel
theorem dX10_longestFree_15 : decode cX10_longestFree 15 = .ok (.invokevirtual 136, 3) := by decide +kernel
theorem dX10_longestFree_18 : decode cX10_longestFree 18 = .ok (.aload_n 0, 1) := by decide +kernel
theorem dX10_longestFree_19 : decode cX10_longestFree 19 = .ok (.getfield 45, 3) := by decide +kernel
theorem dX10_longestFree_22 : decode cX10_longestFree 22 = .ok (.aload_n 0, 1) := by decide +kernel
theorem dX10_longestFree_23 : decode cX10_longestFree 23 = .ok (.getfield 38, 3) := by decide +kernel
theorem dX10_longestFree_26 : decode cX10_longestFree 26 = .ok (.bipush 12, 2) := by decide +kernel
theorem dX10_longestFree_28 : decode cX10_longestFree 28 = .ok (.aload_n 0, 1) := by decide +kernel
theorem dX10_longestFree_29 : decode cX10_longestFree 29 = .ok (.getfield 19, 3) := by decide +kernel
theorem dX10_longestFree_32 : decode cX10_longestFree 32 = .ok (.getfield 103, 3) := by decide +kernel
theorem dX10_longestFree_35 : decode cX10_longestFree 35 = .ok (.invokevirtual 165, 3) := by decide +kernel
theorem dX10_longestFree_38 : decode cX10_longestFree 38 = .ok (.istore_n 1, 1) := by decide +kernel
theorem dX10_longestFree_39 : decode cX10_longestFree 39 = .ok (.iload_n 1, 1) := by decide +kernel
theorem dX10_longestFree_40 : decode cX10_longestFree 40 = .ok (.bipush (-4), 2) := by decide +kernel
theorem dX10_longestFree_42 : decode cX10_longestFree 42 = .ok (.if_icmp .ne 6, 3) := by decide +kernel
theorem dX10_longestFree_45 : decode cX10_longestFree 45 = .ok (.bipush (-4), 2) := by decide +kernel
theorem dX10_longestFree_47 : decode cX10_longestFree 47 = .ok (.ireturn, 1) := by decide +kernel
theorem dX10_longestFree_48 : decode cX10_longestFree 48 = .ok (.iload_n 1, 1) := by decide +kernel
theorem dX10_longestFree_49 : decode cX10_longestFree 49 = .ok (.ifCond .le 8, 3) := by decide +kernel
theorem dX10_longestFree_52 : decode cX10_longestFree 52 = .ok (.bipush (-2), 2) := by decide +kernel
theorem dX10_longestFree_54 : decode cX10_longestFree 54 = .ok (.goto 10, 3) := by decide +kernel
theorem dX10_longestFree_57 : decode cX10_longestFree 57 = .ok (.aload_n 0, 1) := by decide +kernel
theorem dX10_longestFree_58 : decode cX10_longestFree 58 = .ok (.getfield 45, 3) := by decide +kernel
theorem dX10_longestFree_61 : decode cX10_longestFree 61 = .ok (.getfield 176, 3) := by decide +kernel
theorem dX10_longestFree_64 : decode cX10_longestFree 64 = .ok (.ireturn, 1) := by decide +kernel
set_option maxRecDepth 20000 in
theorem ggX10_parseImage_X1_imageFault : GoodIn wsX10_parseImage wsX1_imageFault := goodIn_r _ [10, 11, 12, 13, 14, 9, 15, 16, 17, 18, 19, 20, 56, 57] rfl (by decide +kernel)
set_option maxRecDepth 20000 in
theorem gX10_parseImage_X1_imageFault : GoodIn wsX10_parseImage (wsV RX10 179 RX1 yX1_imageFault wsX1_imageFault) := goodIn_app (goodIn_r _ [6, 7, 8, 9] rfl (by decide +kernel)) ggX10_parseImage_X1_imageFault
set_option maxRecDepth 20000 in
theorem ggX10_parseImage_X1_letterAt : GoodIn wsX10_parseImage wsX1_letterAt := goodIn_r _ [15, 16, 17, 18, 9, 19, 11, 20, 56, 57] rfl (by decide +kernel)
set_option maxRecDepth 20000 in
theorem gX10_parseImage_X1_letterAt : GoodIn wsX10_parseImage (wsV RX10 182 RX1 yX1_letterAt wsX1_letterAt) := goodIn_app (goodIn_r _ [21, 13, 14, 9] rfl (by decide +kernel)) ggX10_parseImage_X1_letterAt
set_option maxRecDepth 20000 in
theorem ggX10_parseImage_X5_hasLetter : GoodIn wsX10_parseImage wsX5_hasLetter := goodIn_r _ [26, 27, 50, 51, 52, 53, 54, 55] rfl (by decide +kernel)
set_option maxRecDepth 20000 in
theorem gX10_parseImage_X5_hasLetter : GoodIn wsX10_parseImage (wsV RX10 109 RX5 yX5_hasLetter wsX5_hasLetter) := goodIn_app (goodIn_r _ [22, 23, 24, 25] rfl (by decide +kernel)) ggX10_parseImage_X5_hasLetter
set_option maxRecDepth 20000 in
theorem ggX10_parseImage_X1_copyImageTo : GoodIn wsX10_parseImage wsX1_copyImageTo := goodIn_r _ [31, 32, 11, 20, 33, 34, 35, 36, 37, 38, 39, 58, 59, 56, 57] rfl (by decide +kernel)
set_option maxRecDepth 20000 in
theorem gX10_parseImage_X1_copyImageTo : GoodIn wsX10_parseImage (wsV RX10 189 RX1 yX1_copyImageTo wsX1_copyImageTo) := goodIn_app (goodIn_r _ [28, 29, 30, 9] rfl (by decide +kernel)) ggX10_parseImage_X1_copyImageTo
theorem dX10_parseImage_0 : decode cX10_parseImage 0 = .ok (.aload_n 0, 1) := by decide +kernel
theorem dX10_parseImage_1 : decode cX10_parseImage 1 = .ok (.getfield 10, 3) := by decide +kernel
theorem dX10_parseImage_4 : decode cX10_parseImage 4 = .ok (.aload_n 0, 1) := by decide +kernel
theorem dX10_parseImage_5 : decode cX10_parseImage 5 = .ok (.getfield 19, 3) := by decide +kernel
theorem dX10_parseImage_8 : decode cX10_parseImage 8 = .ok (.getfield 103, 3) := by decide +kernel
theorem dX10_parseImage_11 : decode cX10_parseImage 11 = .ok (.invokevirtual 179, 3) := by decide +kernel
theorem dX10_parseImage_14 : decode cX10_parseImage 14 = .ok (.istore_n 1, 1) := by decide +kernel
theorem dX10_parseImage_15 : decode cX10_parseImage 15 = .ok (.aload_n 0, 1) := by decide +kernel
theorem dX10_parseImage_16 : decode cX10_parseImage 16 = .ok (.getfield 10, 3) := by decide +kernel
theorem dX10_parseImage_19 : decode cX10_parseImage 19 = .ok (.iconst 0, 1) := by decide +kernel
theorem dX10_parseImage_20 : decode cX10_parseImage 20 = .ok (.aload_n 0, 1) := by decide +kernel
theorem dX10_parseImage_21 : decode cX10_parseImage 21 = .ok (.getfield 19, 3) := by decide +kernel
theorem dX10_parseImage_24 : decode cX10_parseImage 24 = .ok (.getfield 103, 3) := by decide +kernel
theorem dX10_parseImage_27 : decode cX10_parseImage 27 = .ok (.invokevirtual 182, 3) := by decide +kernel
theorem dX10_parseImage_30 : decode cX10_parseImage 30 = .ok (.istore_n 2, 1) := by decide +kernel
theorem dX10_parseImage_31 : decode cX10_parseImage 31 = .ok (.iload_n 1, 1) := by decide +kernel
theorem dX10_parseImage_32 : decode cX10_parseImage 32 = .ok (.iconst (-1), 1) := by decide +kernel
theorem dX10_parseImage_33 : decode cX10_parseImage 33 = .ok (.if_icmp .ne 30, 3) := by decide +kernel
theorem dX10_parseImage_36 : decode cX10_parseImage 36 = .ok (.aload_n 0, 1) := by decide +kernel
theorem dX10_parseImage_37 : decode cX10_parseImage 37 = .ok (.getfield 19, 3) := by decide +kernel
theorem dX10_parseImage_40 : decode cX10_parseImage 40 = .ok (.iload_n 2, 1) := by decide +kernel
theorem dX10_parseImage_41 : decode cX10_parseImage 41 = .ok (.invokevirtual 109, 3) := by decide +kernel
theorem dX10_parseImage_44 : decode cX10_parseImage 44 = .ok (.ifCond .eq 19, 3) := by decide +kernel
theorem dX10_parseImage_47 : decode cX10_parseImage 47 = .ok (.aload_n 0, 1) := by decide +kernel
theorem dX10_parseImage_48 : decode cX10_parseImage 48 = .ok (.getfield 10, 3) := by decide +kernel
theorem dX10_parseImage_51 : decode cX10_parseImage 51 = .ok (.aload_n 0, 1) := by decide +kernel
theorem dX10_parseImage_52 : decode cX10_parseImage 52 = .ok (.getfield 19, 3) := by decide +kernel
theorem dX10_parseImage_55 : decode cX10_parseImage 55 = .ok (.getfield 186, 3) := by decide +kernel
theorem dX10_parseImage_58 : decode cX10_parseImage 58 = .ok (.iload_n 2, 1) := by decide +kernel
theorem dX10_parseImage_59 : decode cX10_parseImage 59 = .ok (.aaload, 1) := by decide +kernel
theorem dX10_parseImage_60 : decode cX10_parseImage 60 = .ok (.invokevirtual 189, 3) := by decide +kernel
theorem dX10_parseImage_63 : decode cX10_parseImage 63 = .ok (.aload_n 0, 1) := by decide +kernel
theorem dX10_parseImage_64 : decode cX10_parseImage 64 = .ok (.getfield 10, 3) := by decide +kernel
theorem dX10_parseImage_67 : decode cX10_parseImage 67 = .ok (.iconst 0, 1) := by decide +kernel
theorem dX10_parseImage_68 : decode cX10_parseImage 68 = .ok (.putfield 70, 3) := by decide +kernel
theorem dX10_parseImage_71 : decode cX10_parseImage 71 = .ok (.iload_n 1, 1) := by decide +kernel
theorem dX10_parseImage_72 : decode cX10_parseImage 72 = .ok (.iconst (-1), 1) := by decide +kernel
theorem dX10_parseImage_73 : decode cX10_parseImage 73 = .ok (.if_icmp .ne 7, 3) := by decide +kernel
theorem dX10_parseImage_76 : decode cX10_parseImage 76 = .ok (.iload_n 2, 1) := by decide +kernel
theorem dX10_parseImage_77 : decode cX10_parseImage 77 = .ok (.goto 7, 3) := by decide +kernel
theorem dX10_parseImage_80 : decode cX10_parseImage 80 = .ok (.bipush (-100), 2) := by decide +kernel
theorem dX10_parseImage_82 : decode cX10_parseImage 82 = .ok (.iload_n 1, 1) := by decide +kernel
theorem dX10_parseImage_83 : decode cX10_parseImage 83 = .ok (.isub, 1) := by decide +kernel
theorem dX10_parseImage_84 : decode cX10_parseImage 84 = .ok (.ireturn, 1) := by decide +kernel
set_option maxRecDepth 20000 in
theorem ggX10_imageLength_X5_hasLetter : GoodIn wsX10_imageLength wsX5_hasLetter := goodIn_r _ [8, 9, 20, 21, 22, 23, 24, 25] rfl (by decide +kernel)
set_option maxRecDepth 20000 in
theorem gX10_imageLength_X5_hasLetter : GoodIn wsX10_imageLength (wsV RX10 109 RX5 yX5_hasLetter wsX5_hasLetter) := goodIn_app (goodIn_r _ [4, 5, 6, 7] rfl (by decide +kernel)) ggX10_imageLength_X5_hasLetter
theorem dX10_imageLength_0 : decode cX10_imageLength 0 = .ok (.aload_n 0, 1) := by decide +kernel
theorem dX10_imageLength_1 : decode cX10_imageLength 1 = .ok (.getfield 19, 3) := by decide +kernel
theorem dX10_imageLength_4 : decode cX10_imageLength 4 = .ok (.iload_n 1, 1) := by decide +kernel
theorem dX10_imageLength_5 : decode cX10_imageLength 5 = .ok (.invokevirtual 109, 3) := by decide +kernel
theorem dX10_imageLength_8 : decode cX10_imageLength 8 = .ok (.ifCond .eq 18, 3) := by decide +kernel
theorem dX10_imageLength_11 : decode cX10_imageLength 11 = .ok (.aload_n 0, 1) := by decide +kernel
theorem dX10_imageLength_12 : decode cX10_imageLength 12 = .ok (.getfield 19, 3) := by decide +kernel
theorem dX10_imageLength_15 : decode cX10_imageLength 15 = .ok (.getfield 186, 3) := by decide +kernel
theorem dX10_imageLength_18 : decode cX10_imageLength 18 = .ok (.iload_n 1, 1) := by decide +kernel
theorem dX10_imageLength_19 : decode cX10_imageLength 19 = .ok (.aaload, 1) := by decide +kernel
theorem dX10_imageLength_20 : decode cX10_imageLength 20 = .ok (.getfield 124, 3) := by decide +kernel
theorem dX10_imageLength_23 : decode cX10_imageLength 23 = .ok (.goto 4, 3) := by decide +kernel
theorem dX10_imageLength_26 : decode cX10_imageLength 26 = .ok (.iconst (-1), 1) := by decide +kernel
theorem dX10_imageLength_27 : decode cX10_imageLength 27 = .ok (.ireturn, 1) := by decide +kernel
set_option maxRecDepth 20000 in
theorem ggX10_apply_X10_isWord : GoodIn wsX10_apply wsX10_isWord := goodIn_r _ [10] rfl (by decide +kernel)
set_option maxRecDepth 20000 in
theorem gX10_apply_X10_isWord : GoodIn wsX10_apply (va_wsS RX10 117 yX10_isWord wsX10_isWord) := goodIn_app (goodIn_r _ [7, 8, 9] rfl (by decide +kernel)) ggX10_apply_X10_isWord
set_option maxRecDepth 20000 in
theorem ggX10_apply_X9_putAll : GoodIn wsX10_apply wsX9_putAll := goodIn_r _ [15, 16, 17, 18, 19, 20, 14, 21, 43, 44] rfl (by decide +kernel)
set_option maxRecDepth 20000 in
theorem gX10_apply_X9_putAll : GoodIn wsX10_apply (wsV RX10 192 RX9 yX9_putAll wsX9_putAll) := goodIn_app (goodIn_r _ [11, 12, 13, 14] rfl (by decide +kernel)) ggX10_apply_X9_putAll
set_option maxRecDepth 20000 in
theorem ggX10_apply_X9_copyFrom : GoodIn wsX10_apply wsX9_copyFrom := goodIn_r _ [25, 16, 26, 12, 13, 14, 15, 17, 18, 19, 20, 21, 43, 44] rfl (by decide +kernel)
set_option maxRecDepth 20000 in
theorem gX10_apply_X9_copyFrom : GoodIn wsX10_apply (wsV RX10 195 RX9 yX9_copyFrom wsX9_copyFrom) := goodIn_app (goodIn_r _ [22, 23, 24, 14] rfl (by decide +kernel)) ggX10_apply_X9_copyFrom
theorem dX10_apply_0 : decode cX10_apply 0 = .ok (.iload_n 1, 1) := by decide +kernel
theorem dX10_apply_1 : decode cX10_apply 1 = .ok (.invokestatic 117, 3) := by decide +kernel
theorem dX10_apply_4 : decode cX10_apply 4 = .ok (.ifCond .ne 5, 3) := by decide +kernel
theorem dX10_apply_7 : decode cX10_apply 7 = .ok (.iconst (-1), 1) := by decide +kernel
theorem dX10_apply_8 : decode cX10_apply 8 = .ok (.ireturn, 1) := by decide +kernel
theorem dX10_apply_9 : decode cX10_apply 9 = .ok (.aload_n 0, 1) := by decide +kernel
theorem dX10_apply_10 : decode cX10_apply 10 = .ok (.getfield 19, 3) := by decide +kernel
theorem dX10_apply_13 : decode cX10_apply 13 = .ok (.getfield 120, 3) := by decide +kernel
theorem dX10_apply_16 : decode cX10_apply 16 = .ok (.iload_n 1, 1) := by decide +kernel
theorem dX10_apply_17 : decode cX10_apply 17 = .ok (.aaload, 1) := by decide +kernel
theorem dX10_apply_18 : decode cX10_apply 18 = .ok (.astore_n 2, 1) := by decide +kernel
theorem dX10_apply_19 : decode cX10_apply 19 = .ok (.iconst 0, 1) := by decide +kernel
theorem dX10_apply_20 : decode cX10_apply 20 = .ok (.istore_n 3, 1) := by decide +kernel
theorem dX10_apply_21 : decode cX10_apply 21 = .ok (.iconst 0, 1) := by decide +kernel
theorem dX10_apply_22 : decode cX10_apply 22 = .ok (.istore 4, 2) := by decide +kernel
theorem dX10_apply_24 : decode cX10_apply 24 = .ok (.iload 4, 2) := by decide +kernel
theorem dX10_apply_26 : decode cX10_apply 26 = .ok (.aload_n 2, 1) := by decide +kernel
theorem dX10_apply_27 : decode cX10_apply 27 = .ok (.getfield 124, 3) := by decide +kernel
theorem dX10_apply_30 : decode cX10_apply 30 = .ok (.if_icmp .ge 42, 3) := by decide +kernel
theorem dX10_apply_33 : decode cX10_apply 33 = .ok (.aload_n 0, 1) := by decide +kernel
theorem dX10_apply_34 : decode cX10_apply 34 = .ok (.getfield 19, 3) := by decide +kernel
theorem dX10_apply_37 : decode cX10_apply 37 = .ok (.getfield 186, 3) := by decide +kernel
theorem dX10_apply_40 : decode cX10_apply 40 = .ok (.aload_n 2, 1) := by decide +kernel
theorem dX10_apply_41 : decode cX10_apply 41 = .ok (.getfield 126, 3) := by decide +kernel
theorem dX10_apply_44 : decode cX10_apply 44 = .ok (.iload 4, 2) := by decide +kernel
theorem dX10_apply_46 : decode cX10_apply 46 = .ok (.iaload, 1) := by decide +kernel
theorem dX10_apply_47 : decode cX10_apply 47 = .ok (.aaload, 1) := by decide +kernel
theorem dX10_apply_48 : decode cX10_apply 48 = .ok (.getfield 124, 3) := by decide +kernel
theorem dX10_apply_51 : decode cX10_apply 51 = .ok (.istore 5, 2) := by decide +kernel
theorem dX10_apply_53 : decode cX10_apply 53 = .ok (.iload 5, 2) := by decide +kernel
theorem dX10_apply_55 : decode cX10_apply 55 = .ok (.ifCond .ne 6, 3) := by decide +kernel
theorem dX10_apply_58 : decode cX10_apply 58 = .ok (.bipush (-6), 2) := by decide +kernel
theorem dX10_apply_60 : decode cX10_apply 60 = .ok (.ireturn, 1) := by decide +kernel
theorem dX10_apply_61 : decode cX10_apply 61 = .ok (.iload_n 3, 1) := by decide +kernel
theorem dX10_apply_62 : decode cX10_apply 62 = .ok (.iload 5, 2) := by decide +kernel
theorem dX10_apply_64 : decode cX10_apply 64 = .ok (.iadd, 1) := by decide +kernel
theorem dX10_apply_65 : decode cX10_apply 65 = .ok (.istore_n 3, 1) := by decide +kernel
theorem dX10_apply_66 : decode cX10_apply 66 = .ok (.iinc 4 1, 3) := by decide +kernel
theorem dX10_apply_69 : decode cX10_apply 69 = .ok (.goto (-45), 3) := by decide +kernel
theorem dX10_apply_72 : decode cX10_apply 72 = .ok (.iload_n 3, 1) := by decide +kernel
theorem dX10_apply_73 : decode cX10_apply 73 = .ok (.bipush 40, 2) := by decide +kernel
theorem dX10_apply_75 : decode cX10_apply 75 = .ok (.if_icmp .le 6, 3) := by decide +kernel
theorem dX10_apply_78 : decode cX10_apply 78 = .ok (.bipush (-3), 2) := by decide +kernel
theorem dX10_apply_80 : decode cX10_apply 80 = .ok (.ireturn, 1) := by decide +kernel
theorem dX10_apply_81 : decode cX10_apply 81 = .ok (.aload_n 0, 1) := by decide +kernel
theorem dX10_apply_82 : decode cX10_apply 82 = .ok (.getfield 31, 3) := by decide +kernel
theorem dX10_apply_85 : decode cX10_apply 85 = .ok (.iconst 0, 1) := by decide +kernel
theorem dX10_apply_86 : decode cX10_apply 86 = .ok (.putfield 124, 3) := by decide +kernel
theorem dX10_apply_89 : decode cX10_apply 89 = .ok (.iconst 0, 1) := by decide +kernel
theorem dX10_apply_90 : decode cX10_apply 90 = .ok (.istore 4, 2) := by decide +kernel
theorem dX10_apply_92 : decode cX10_apply 92 = .ok (.iload 4, 2) := by decide +kernel
theorem dX10_apply_94 : decode cX10_apply 94 = .ok (.aload_n 2, 1) := by decide +kernel
theorem dX10_apply_95 : decode cX10_apply 95 = .ok (.getfield 124, 3) := by decide +kernel
theorem dX10_apply_98 : decode cX10_apply 98 = .ok (.if_icmp .ge 31, 3) := by decide +kernel
theorem dX10_apply_101 : decode cX10_apply 101 = .ok (.aload_n 0, 1) := by decide +kernel
theorem dX10_apply_102 : decode cX10_apply 102 = .ok (.getfield 31, 3) := by decide +kernel
theorem dX10_apply_105 : decode cX10_apply 105 = .ok (.aload_n 0, 1) := by decide +kernel
theorem dX10_apply_106 : decode cX10_apply 106 = .ok (.getfield 19, 3) := by decide +kernel
theorem dX10_apply_109 : decode cX10_apply 109 = .ok (.getfield 186, 3) := by decide +kernel
theorem dX10_apply_112 : decode cX10_apply 112 = .ok (.aload_n 2, 1) := by decide +kernel
theorem dX10_apply_113 : decode cX10_apply 113 = .ok (.getfield 126, 3) := by decide +kernel
theorem dX10_apply_116 : decode cX10_apply 116 = .ok (.iload 4, 2) := by decide +kernel
theorem dX10_apply_118 : decode cX10_apply 118 = .ok (.iaload, 1) := by decide +kernel
theorem dX10_apply_119 : decode cX10_apply 119 = .ok (.aaload, 1) := by decide +kernel
theorem dX10_apply_120 : decode cX10_apply 120 = .ok (.invokevirtual 192, 3) := by decide +kernel
theorem dX10_apply_123 : decode cX10_apply 123 = .ok (.iinc 4 1, 3) := by decide +kernel
theorem dX10_apply_126 : decode cX10_apply 126 = .ok (.goto (-34), 3) := by decide +kernel
theorem dX10_apply_129 : decode cX10_apply 129 = .ok (.aload_n 2, 1) := by decide +kernel
theorem dX10_apply_130 : decode cX10_apply 130 = .ok (.aload_n 0, 1) := by decide +kernel
theorem dX10_apply_131 : decode cX10_apply 131 = .ok (.getfield 31, 3) := by decide +kernel
theorem dX10_apply_134 : decode cX10_apply 134 = .ok (.invokevirtual 195, 3) := by decide +kernel
theorem dX10_apply_137 : decode cX10_apply 137 = .ok (.aload_n 2, 1) := by decide +kernel
theorem dX10_apply_138 : decode cX10_apply 138 = .ok (.getfield 124, 3) := by decide +kernel
theorem dX10_apply_141 : decode cX10_apply 141 = .ok (.ireturn, 1) := by decide +kernel
set_option maxRecDepth 20000 in
theorem ggX10_iterate_X10_isWord : GoodIn wsX10_iterate wsX10_isWord := goodIn_r _ [10] rfl (by decide +kernel)
set_option maxRecDepth 20000 in
theorem gX10_iterate_X10_isWord : GoodIn wsX10_iterate (va_wsS RX10 117 yX10_isWord wsX10_isWord) := goodIn_app (goodIn_r _ [7, 8, 9] rfl (by decide +kernel)) ggX10_iterate_X10_isWord
set_option maxRecDepth 20000 in
theorem ggX10_iterate_X5_hasLetter : GoodIn wsX10_iterate wsX5_hasLetter := goodIn_r _ [15, 16, 49, 50, 51, 52, 53, 54] rfl (by decide +kernel)
set_option maxRecDepth 20000 in
theorem gX10_iterate_X5_hasLetter : GoodIn wsX10_iterate (wsV RX10 109 RX5 yX5_hasLetter wsX5_hasLetter) := goodIn_app (goodIn_r _ [11, 12, 13, 14] rfl (by decide +kernel)) ggX10_iterate_X5_hasLetter
set_option maxRecDepth 20000 in
theorem ggX10_iterate_X5_lacksImage : GoodIn wsX10_iterate wsX5_lacksImage := goodIn_r _ [20, 16, 21, 22, 49, 50, 51, 52, 53, 54, 55, 56] rfl (by decide +kernel)
set_option maxRecDepth 20000 in
theorem gX10_iterate_X5_lacksImage : GoodIn wsX10_iterate (wsV RX10 198 RX5 yX5_lacksImage wsX5_lacksImage) := goodIn_app (goodIn_r _ [17, 18, 19, 14] rfl (by decide +kernel)) ggX10_iterate_X5_lacksImage
set_option maxRecDepth 20000 in
theorem ggX10_iterate_X9_copyFrom : GoodIn wsX10_iterate wsX9_copyFrom := goodIn_r _ [27, 28, 29, 30, 31, 26, 32, 33, 34, 35, 36, 37, 55, 56] rfl (by decide +kernel)
set_option maxRecDepth 20000 in
theorem gX10_iterate_X9_copyFrom : GoodIn wsX10_iterate (wsV RX10 195 RX9 yX9_copyFrom wsX9_copyFrom) := goodIn_app (goodIn_r _ [23, 24, 25, 26] rfl (by decide +kernel)) ggX10_iterate_X9_copyFrom
set_option maxRecDepth 20000 in
theorem ggX10_iterate_X9_putAll : GoodIn wsX10_iterate wsX9_putAll := goodIn_r _ [32, 28, 33, 34, 35, 36, 26, 37, 55, 56] rfl (by decide +kernel)
set_option maxRecDepth 20000 in
theorem gX10_iterate_X9_putAll : GoodIn wsX10_iterate (wsV RX10 192 RX9 yX9_putAll wsX9_putAll) := goodIn_app (goodIn_r _ [38, 30, 31, 26] rfl (by decide +kernel)) ggX10_iterate_X9_putAll
theorem dX10_iterate_0 : decode cX10_iterate 0 = .ok (.iload_n 1, 1) := by decide +kernel
theorem dX10_iterate_1 : decode cX10_iterate 1 = .ok (.invokestatic 117, 3) := by decide +kernel
theorem dX10_iterate_4 : decode cX10_iterate 4 = .ok (.ifCond .eq 14, 3) := by decide +kernel
theorem dX10_iterate_7 : decode cX10_iterate 7 = .ok (.aload_n 0, 1) := by decide +kernel
theorem dX10_iterate_8 : decode cX10_iterate 8 = .ok (.getfield 19, 3) := by decide +kernel
theorem dX10_iterate_11 : decode cX10_iterate 11 = .ok (.iload_n 2, 1) := by decide +kernel
theorem dX10_iterate_12 : decode cX10_iterate 12 = .ok (.invokevirtual 109, 3) := by decide +kernel
theorem dX10_iterate_15 : decode cX10_iterate 15 = .ok (.ifCond .ne 5, 3) := by decide +kernel
theorem dX10_iterate_18 : decode cX10_iterate 18 = .ok (.iconst (-1), 1) := by decide +kernel
theorem dX10_iterate_19 : decode cX10_iterate 19 = .ok (.ireturn, 1) := by decide +kernel
theorem dX10_iterate_20 : decode cX10_iterate 20 = .ok (.aload_n 0, 1) := by decide +kernel
theorem dX10_iterate_21 : decode cX10_iterate 21 = .ok (.getfield 19, 3) := by decide +kernel
theorem dX10_iterate_24 : decode cX10_iterate 24 = .ok (.invokevirtual 198, 3) := by decide +kernel
theorem dX10_iterate_27 : decode cX10_iterate 27 = .ok (.ifCond .eq 6, 3) := by decide +kernel
theorem dX10_iterate_30 : decode cX10_iterate 30 = .ok (.bipush (-6), 2) := by decide +kernel
theorem dX10_iterate_32 : decode cX10_iterate 32 = .ok (.ireturn, 1) := by decide +kernel
theorem dX10_iterate_33 : decode cX10_iterate 33 = .ok (.aload_n 0, 1) := by decide +kernel
theorem dX10_iterate_34 : decode cX10_iterate 34 = .ok (.getfield 19, 3) := by decide +kernel
theorem dX10_iterate_37 : decode cX10_iterate 37 = .ok (.getfield 186, 3) := by decide +kernel
theorem dX10_iterate_40 : decode cX10_iterate 40 = .ok (.iload_n 2, 1) := by decide +kernel
theorem dX10_iterate_41 : decode cX10_iterate 41 = .ok (.aaload, 1) := by decide +kernel
theorem dX10_iterate_42 : decode cX10_iterate 42 = .ok (.astore_n 3, 1) := by decide +kernel
theorem dX10_iterate_43 : decode cX10_iterate 43 = .ok (.aload_n 3, 1) := by decide +kernel
theorem dX10_iterate_44 : decode cX10_iterate 44 = .ok (.getfield 124, 3) := by decide +kernel
theorem dX10_iterate_47 : decode cX10_iterate 47 = .ok (.iconst 2, 1) := by decide +kernel
theorem dX10_iterate_48 : decode cX10_iterate 48 = .ok (.if_icmp .lt 13, 3) := by decide +kernel
theorem dX10_iterate_51 : decode cX10_iterate 51 = .ok (.aload_n 3, 1) := by decide +kernel
theorem dX10_iterate_52 : decode cX10_iterate 52 = .ok (.getfield 126, 3) := by decide +kernel
theorem dX10_iterate_55 : decode cX10_iterate 55 = .ok (.iconst 0, 1) := by decide +kernel
theorem dX10_iterate_56 : decode cX10_iterate 56 = .ok (.iaload, 1) := by decide +kernel
theorem dX10_iterate_57 : decode cX10_iterate 57 = .ok (.iload_n 2, 1) := by decide +kernel
theorem dX10_iterate_58 : decode cX10_iterate 58 = .ok (.if_icmp .eq 6, 3) := by decide +kernel
theorem dX10_iterate_61 : decode cX10_iterate 61 = .ok (.bipush (-7), 2) := by decide +kernel
theorem dX10_iterate_63 : decode cX10_iterate 63 = .ok (.ireturn, 1) := by decide +kernel
theorem dX10_iterate_64 : decode cX10_iterate 64 = .ok (.aload_n 0, 1) := by decide +kernel
theorem dX10_iterate_65 : decode cX10_iterate 65 = .ok (.getfield 31, 3) := by decide +kernel
theorem dX10_iterate_68 : decode cX10_iterate 68 = .ok (.aload_n 3, 1) := by decide +kernel
theorem dX10_iterate_69 : decode cX10_iterate 69 = .ok (.invokevirtual 195, 3) := by decide +kernel
theorem dX10_iterate_72 : decode cX10_iterate 72 = .ok (.iconst 1, 1) := by decide +kernel
theorem dX10_iterate_73 : decode cX10_iterate 73 = .ok (.istore 4, 2) := by decide +kernel
theorem dX10_iterate_75 : decode cX10_iterate 75 = .ok (.iload 4, 2) := by decide +kernel
theorem dX10_iterate_77 : decode cX10_iterate 77 = .ok (.aload_n 0, 1) := by decide +kernel
theorem dX10_iterate_78 : decode cX10_iterate 78 = .ok (.getfield 31, 3) := by decide +kernel
theorem dX10_iterate_81 : decode cX10_iterate 81 = .ok (.getfield 124, 3) := by decide +kernel
theorem dX10_iterate_84 : decode cX10_iterate 84 = .ok (.if_icmp .ge 46, 3) := by decide +kernel
theorem dX10_iterate_87 : decode cX10_iterate 87 = .ok (.aload_n 0, 1) := by decide +kernel
theorem dX10_iterate_88 : decode cX10_iterate 88 = .ok (.getfield 31, 3) := by decide +kernel
theorem dX10_iterate_91 : decode cX10_iterate 91 = .ok (.getfield 124, 3) := by decide +kernel
theorem dX10_iterate_94 : decode cX10_iterate 94 = .ok (.bipush 40, 2) := by decide +kernel
theorem dX10_iterate_96 : decode cX10_iterate 96 = .ok (.if_icmp .ge 34, 3) := by decide +kernel
theorem dX10_iterate_99 : decode cX10_iterate 99 = .ok (.aload_n 0, 1) := by decide +kernel
theorem dX10_iterate_100 : decode cX10_iterate 100 = .ok (.getfield 31, 3) := by decide +kernel
theorem dX10_iterate_103 : decode cX10_iterate 103 = .ok (.aload_n 0, 1) := by decide +kernel
theorem dX10_iterate_104 : decode cX10_iterate 104 = .ok (.getfield 19, 3) := by decide +kernel
theorem dX10_iterate_107 : decode cX10_iterate 107 = .ok (.getfield 186, 3) := by decide +kernel
theorem dX10_iterate_110 : decode cX10_iterate 110 = .ok (.aload_n 0, 1) := by decide +kernel
theorem dX10_iterate_111 : decode cX10_iterate 111 = .ok (.getfield 31, 3) := by decide +kernel
theorem dX10_iterate_114 : decode cX10_iterate 114 = .ok (.getfield 126, 3) := by decide +kernel
theorem dX10_iterate_117 : decode cX10_iterate 117 = .ok (.iload 4, 2) := by decide +kernel
theorem dX10_iterate_119 : decode cX10_iterate 119 = .ok (.iaload, 1) := by decide +kernel
theorem dX10_iterate_120 : decode cX10_iterate 120 = .ok (.aaload, 1) := by decide +kernel
theorem dX10_iterate_121 : decode cX10_iterate 121 = .ok (.invokevirtual 192, 3) := by decide +kernel
theorem dX10_iterate_124 : decode cX10_iterate 124 = .ok (.iinc 4 1, 3) := by decide +kernel
theorem dX10_iterate_127 : decode cX10_iterate 127 = .ok (.goto (-52), 3) := by decide +kernel
theorem dX10_iterate_130 : decode cX10_iterate 130 = .ok (.aload_n 0, 1) := by decide +kernel
theorem dX10_iterate_131 : decode cX10_iterate 131 = .ok (.getfield 19, 3) := by decide +kernel
theorem dX10_iterate_134 : decode cX10_iterate 134 = .ok (.getfield 120, 3) := by decide +kernel
theorem dX10_iterate_137 : decode cX10_iterate 137 = .ok (.iload_n 1, 1) := by decide +kernel
theorem dX10_iterate_138 : decode cX10_iterate 138 = .ok (.aaload, 1) := by decide +kernel
theorem dX10_iterate_139 : decode cX10_iterate 139 = .ok (.aload_n 0, 1) := by decide +kernel
theorem dX10_iterate_140 : decode cX10_iterate 140 = .ok (.getfield 31, 3) := by decide +kernel
theorem dX10_iterate_143 : decode cX10_iterate 143 = .ok (.invokevirtual 195, 3) := by decide +kernel
theorem dX10_iterate_146 : decode cX10_iterate 146 = .ok (.aload_n 0, 1) := by decide +kernel
theorem dX10_iterate_147 : decode cX10_iterate 147 = .ok (.getfield 19, 3) := by decide +kernel
theorem dX10_iterate_150 : decode cX10_iterate 150 = .ok (.getfield 120, 3) := by decide +kernel
theorem dX10_iterate_153 : decode cX10_iterate 153 = .ok (.iload_n 1, 1) := by decide +kernel
theorem dX10_iterate_154 : decode cX10_iterate 154 = .ok (.aaload, 1) := by decide +kernel
theorem dX10_iterate_155 : decode cX10_iterate 155 = .ok (.getfield 124, 3) := by decide +kernel
theorem dX10_iterate_158 : decode cX10_iterate 158 = .ok (.ireturn, 1) := by decide +kernel
set_option maxRecDepth 20000 in
theorem ggX10_determinant_X5_lacksImage : GoodIn wsX10_determinant wsX5_lacksImage := goodIn_r _ [8, 9, 10, 11, 54, 55, 56, 57, 58, 59, 60, 61] rfl (by decide +kernel)
set_option maxRecDepth 20000 in
theorem gX10_determinant_X5_lacksImage : GoodIn wsX10_determinant (wsV RX10 198 RX5 yX5_lacksImage wsX5_lacksImage) := goodIn_app (goodIn_r _ [4, 5, 6, 7] rfl (by decide +kernel)) ggX10_determinant_X5_lacksImage
set_option maxRecDepth 20000 in
theorem ggX10_determinant_X2_load : GoodIn wsX10_determinant wsX2_load := goodIn_r _ [16, 17, 18, 19, 20, 21, 22, 23, 24, 25, 26, 27, 28, 29, 30, 31, 32, 54, 55, 56, 57, 58, 59, 62, 63, 60, 61] rfl (by decide +kernel)
set_option maxRecDepth 20000 in
theorem gX10_determinant_X2_load : GoodIn wsX10_determinant (wsV RX10 206 RX2 yX2_load wsX2_load) := goodIn_app (goodIn_r _ [12, 13, 14, 15] rfl (by decide +kernel)) ggX10_determinant_X2_load
set_option maxRecDepth 20000 in
theorem ggX10_determinant_X2_wholeMinor : GoodIn wsX10_determinant wsX2_wholeMinor := goodIn_r _ [36, 20, 18, 37, 38, 39, 15, 40, 41, 42, 43, 62, 63] rfl (by decide +kernel)
set_option maxRecDepth 20000 in
theorem gX10_determinant_X2_wholeMinor : GoodIn wsX10_determinant (wsV RX10 210 RX2 yX2_wholeMinor wsX2_wholeMinor) := goodIn_app (goodIn_r _ [33, 34, 35, 15] rfl (by decide +kernel)) ggX10_determinant_X2_wholeMinor
theorem dX10_determinant_0 : decode cX10_determinant 0 = .ok (.aload_n 0, 1) := by decide +kernel
theorem dX10_determinant_1 : decode cX10_determinant 1 = .ok (.getfield 19, 3) := by decide +kernel
theorem dX10_determinant_4 : decode cX10_determinant 4 = .ok (.invokevirtual 198, 3) := by decide +kernel
theorem dX10_determinant_7 : decode cX10_determinant 7 = .ok (.ifCond .eq 7, 3) := by decide +kernel
theorem dX10_determinant_10 : decode cX10_determinant 10 = .ok (.ldc2_w 204, 3) := by decide +kernel
theorem dX10_determinant_13 : decode cX10_determinant 13 = .ok (.lreturn, 1) := by decide +kernel
theorem dX10_determinant_14 : decode cX10_determinant 14 = .ok (.aload_n 0, 1) := by decide +kernel
theorem dX10_determinant_15 : decode cX10_determinant 15 = .ok (.getfield 52, 3) := by decide +kernel
theorem dX10_determinant_18 : decode cX10_determinant 18 = .ok (.aload_n 0, 1) := by decide +kernel
theorem dX10_determinant_19 : decode cX10_determinant 19 = .ok (.getfield 19, 3) := by decide +kernel
theorem dX10_determinant_22 : decode cX10_determinant 22 = .ok (.invokevirtual 206, 3) := by decide +kernel
theorem dX10_determinant_25 : decode cX10_determinant 25 = .ok (.aload_n 0, 1) := by decide +kernel
theorem dX10_determinant_26 : decode cX10_determinant 26 = .ok (.getfield 52, 3) := by decide +kernel
theorem dX10_determinant_29 : decode cX10_determinant 29 = .ok (.invokevirtual 210, 3) := by decide +kernel
theorem dX10_determinant_32 : decode cX10_determinant 32 = .ok (.i2l, 1) := by decide +kernel
theorem dX10_determinant_33 : decode cX10_determinant 33 = .ok (.lreturn, 1) := by decide +kernel
set_option maxRecDepth 20000 in
theorem ggX10_computeClosure_X5_lacksImage : GoodIn wsX10_computeClosure wsX5_lacksImage := goodIn_r _ [8, 9, 10, 11, 162, 163, 164, 165, 166, 167, 168, 169] rfl (by decide +kernel)
set_option maxRecDepth 20000 in
theorem gX10_computeClosure_X5_lacksImage : GoodIn wsX10_computeClosure (wsV RX10 198 RX5 yX5_lacksImage wsX5_lacksImage) := goodIn_app (goodIn_r _ [4, 5, 6, 7] rfl (by decide +kernel)) ggX10_computeClosure_X5_lacksImage
set_option maxRecDepth 20000 in
theorem ggX10_computeClosure_X2_load : GoodIn wsX10_computeClosure wsX2_load := goodIn_r _ [16, 17, 18, 19, 20, 21, 22, 23, 24, 25, 26, 27, 28, 29, 30, 31, 32, 162, 163, 164, 165, 166, 167, 170, 171, 168, 169] rfl (by decide +kernel)
set_option maxRecDepth 20000 in
theorem gX10_computeClosure_X2_load : GoodIn wsX10_computeClosure (wsV RX10 206 RX2 yX2_load wsX2_load) := goodIn_app (goodIn_r _ [12, 13, 14, 15] rfl (by decide +kernel)) ggX10_computeClosure_X2_load
set_option maxRecDepth 20000 in
theorem ggX10_computeClosure_X2_wholeMinor : GoodIn wsX10_computeClosure wsX2_wholeMinor := goodIn_r _ [36, 20, 18, 37, 38, 39, 15, 40, 41, 42, 43, 170, 171] rfl (by decide +kernel)
set_option maxRecDepth 20000 in
theorem gX10_computeClosure_X2_wholeMinor : GoodIn wsX10_computeClosure (wsV RX10 210 RX2 yX2_wholeMinor wsX2_wholeMinor) := goodIn_app (goodIn_r _ [33, 34, 35, 15] rfl (by decide +kernel)) ggX10_computeClosure_X2_wholeMinor
set_option maxRecDepth 20000 in
theorem ggX10_computeClosure_X0_build : GoodIn wsX10_computeClosure wsX0_build := goodIn_r _ [48, 49, 50, 51, 52, 53, 54, 55, 56, 47, 57, 58, 59, 60, 61, 34, 35, 15, 36, 20, 18, 37, 38, 39, 40, 41, 42, 43, 62, 63, 64, 65, 66, 67, 68, 69, 70, 71, 72, 73, 74, 75, 76, 77, 78, 79, 80, 81, 82, 83, 84, 85, 86, 87, 88, 89, 90, 91, 92, 93, 94, 95, 96, 97, 98, 99, 100, 101, 102, 103, 104, 105, 106, 107, 108, 109, 110, 111, 112, 113, 114, 115, 116, 117, 118, 119, 120, 121, 122, 123, 124, 125, 126, 127, 128, 129, 130, 131, 132, 133, 134, 135, 136, 137, 138, 139, 140, 141, 142, 143, 144, 145, 146, 147, 148, 149, 150, 151, 172, 173, 174, 175, 176, 177, 178, 179, 180, 181, 182, 183, 184, 185, 170, 171, 186, 187, 188, 189, 190, 191, 162, 163, 164, 165, 166, 167, 168, 169] rfl (by decide +kernel)
set_option maxRecDepth 20000 in
theorem gX10_computeClosure_X0_build : GoodIn wsX10_computeClosure (wsV RX10 213 RX0 yX0_build wsX0_build) := goodIn_app (goodIn_r _ [44, 45, 46, 47] rfl (by decide +kernel)) ggX10_computeClosure_X0_build
theorem dX10_computeClosure_0 : decode cX10_computeClosure 0 = .ok (.aload_n 0, 1) := by decide +kernel
theorem dX10_computeClosure_1 : decode cX10_computeClosure 1 = .ok (.getfield 19, 3) := by decide +kernel
theorem dX10_computeClosure_4 : decode cX10_computeClosure 4 = .ok (.invokevirtual 198, 3) := by decide +kernel
theorem dX10_computeClosure_7 : decode cX10_computeClosure 7 = .ok (.ifCond .eq 6, 3) := by decide +kernel
theorem dX10_computeClosure_10 : decode cX10_computeClosure 10 = .ok (.bipush (-6), 2) := by decide +kernel
theorem dX10_computeClosure_12 : decode cX10_computeClosure 12 = .ok (.ireturn, 1) := by decide +kernel
theorem dX10_computeClosure_13 : decode cX10_computeClosure 13 = .ok (.aload_n 0, 1) := by decide +kernel
theorem dX10_computeClosure_14 : decode cX10_computeClosure 14 = .ok (.getfield 52, 3) := by decide +kernel
theorem dX10_computeClosure_17 : decode cX10_computeClosure 17 = .ok (.aload_n 0, 1) := by decide +kernel
theorem dX10_computeClosure_18 : decode cX10_computeClosure 18 = .ok (.getfield 19, 3) := by decide +kernel
theorem dX10_computeClosure_21 : decode cX10_computeClosure 21 = .ok (.invokevirtual 206, 3) := by decide +kernel
theorem dX10_computeClosure_24 : decode cX10_computeClosure 24 = .ok (.aload_n 0, 1) := by decide +kernel
theorem dX10_computeClosure_25 : decode cX10_computeClosure 25 = .ok (.getfield 52, 3) := by decide +kernel
theorem dX10_computeClosure_28 : decode cX10_computeClosure 28 = .ok (.invokevirtual 210, 3) := by decide +kernel
theorem dX10_computeClosure_31 : decode cX10_computeClosure 31 = .ok (.ifCond .ne 6, 3) := by decide +kernel
theorem dX10_computeClosure_34 : decode cX10_computeClosure 34 = .ok (.bipush (-8), 2) := by decide +kernel
theorem dX10_computeClosure_36 : decode cX10_computeClosure 36 = .ok (.ireturn, 1) := by decide +kernel
theorem dX10_computeClosure_37 : decode cX10_computeClosure 37 = .ok (.aload_n 0, 1) := by decide +kernel
theorem dX10_computeClosure_38 : decode cX10_computeClosure 38 = .ok (.getfield 59, 3) := by decide +kernel
theorem dX10_computeClosure_41 : decode cX10_computeClosure 41 = .ok (.aload_n 0, 1) := by decide +kernel
theorem dX10_computeClosure_42 : decode cX10_computeClosure 42 = .ok (.getfield 19, 3) := by decide +kernel
theorem dX10_computeClosure_45 : decode cX10_computeClosure 45 = .ok (.aload_n 0, 1) := by decide +kernel
theorem dX10_computeClosure_46 : decode cX10_computeClosure 46 = .ok (.getfield 52, 3) := by decide +kernel
theorem dX10_computeClosure_49 : decode cX10_computeClosure 49 = .ok (.invokevirtual 213, 3) := by decide +kernel
theorem dX10_computeClosure_52 : decode cX10_computeClosure 52 = .ok (.ireturn, 1) := by decide +kernel
set_option maxRecDepth 20000 in
theorem ggX10_template_X0_has : GoodIn wsX10_template wsX0_has := goodIn_r _ [9, 10, 35, 36, 37, 38, 39, 40, 41, 42, 43, 44, 45, 46, 47, 48] rfl (by decide +kernel)
set_option maxRecDepth 20000 in
theorem gX10_template_X0_has : GoodIn wsX10_template (wsV RX10 217 RX0 yX0_has wsX0_has) := goodIn_app (goodIn_r _ [5, 6, 7, 8] rfl (by decide +kernel)) ggX10_template_X0_has
set_option maxRecDepth 20000 in
theorem ggX10_template_X0_read : GoodIn wsX10_template wsX0_read := goodIn_r _ [14, 15, 16, 17, 18, 19, 20, 21, 22, 23, 24, 35, 36, 37, 38, 39, 40, 41, 42, 43, 44, 45, 46, 47, 48, 49, 50] rfl (by decide +kernel)
set_option maxRecDepth 20000 in
theorem gX10_template_X0_read : GoodIn wsX10_template (wsV RX10 221 RX0 yX0_read wsX0_read) := goodIn_app (goodIn_r _ [11, 12, 13, 8] rfl (by decide +kernel)) ggX10_template_X0_read
theorem dX10_template_0 : decode cX10_template 0 = .ok (.aload_n 0, 1) := by decide +kernel
theorem dX10_template_1 : decode cX10_template 1 = .ok (.getfield 59, 3) := by decide +kernel
theorem dX10_template_4 : decode cX10_template 4 = .ok (.iload_n 1, 1) := by decide +kernel
theorem dX10_template_5 : decode cX10_template 5 = .ok (.invokevirtual 217, 3) := by decide +kernel
theorem dX10_template_8 : decode cX10_template 8 = .ok (.ifCond .ne 6, 3) := by decide +kernel
theorem dX10_template_11 : decode cX10_template 11 = .ok (.bipush (-2), 2) := by decide +kernel
theorem dX10_template_13 : decode cX10_template 13 = .ok (.ireturn, 1) := by decide +kernel
theorem dX10_template_14 : decode cX10_template 14 = .ok (.iload_n 2, 1) := by decide +kernel
theorem dX10_template_15 : decode cX10_template 15 = .ok (.ifCond .lt 16, 3) := by decide +kernel
theorem dX10_template_18 : decode cX10_template 18 = .ok (.iload_n 2, 1) := by decide +kernel
theorem dX10_template_19 : decode cX10_template 19 = .ok (.iconst 3, 1) := by decide +kernel
theorem dX10_template_20 : decode cX10_template 20 = .ok (.aload_n 0, 1) := by decide +kernel
theorem dX10_template_21 : decode cX10_template 21 = .ok (.getfield 59, 3) := by decide +kernel
theorem dX10_template_24 : decode cX10_template 24 = .ok (.getfield 220, 3) := by decide +kernel
theorem dX10_template_27 : decode cX10_template 27 = .ok (.iadd, 1) := by decide +kernel
theorem dX10_template_28 : decode cX10_template 28 = .ok (.if_icmp .lt 5, 3) := by decide +kernel
theorem dX10_template_31 : decode cX10_template 31 = .ok (.iconst (-1), 1) := by decide +kernel
theorem dX10_template_32 : decode cX10_template 32 = .ok (.ireturn, 1) := by decide +kernel
theorem dX10_template_33 : decode cX10_template 33 = .ok (.aload_n 0, 1) := by decide +kernel
theorem dX10_template_34 : decode cX10_template 34 = .ok (.getfield 59, 3) := by decide +kernel
theorem dX10_template_37 : decode cX10_template 37 = .ok (.iload_n 1, 1) := by decide +kernel
theorem dX10_template_38 : decode cX10_template 38 = .ok (.invokevirtual 221, 3) := by decide +kernel
theorem dX10_template_41 : decode cX10_template 41 = .ok (.astore_n 3, 1) := by decide +kernel
theorem dX10_template_42 : decode cX10_template 42 = .ok (.iload_n 2, 1) := by decide +kernel
theorem dX10_template_43 : decode cX10_template 43 = .ok (.iconst 3, 1) := by decide +kernel
theorem dX10_template_44 : decode cX10_template 44 = .ok (.if_icmp .ge 12, 3) := by decide +kernel
theorem dX10_template_47 : decode cX10_template 47 = .ok (.aload_n 3, 1) := by decide +kernel
theorem dX10_template_48 : decode cX10_template 48 = .ok (.getfield 225, 3) := by decide +kernel
theorem dX10_template_51 : decode cX10_template 51 = .ok (.iload_n 2, 1) := by decide +kernel
theorem dX10_template_52 : decode cX10_template 52 = .ok (.iaload, 1) := by decide +kernel
theorem dX10_template_53 : decode cX10_template 53 = .ok (.goto 11, 3) := by decide +kernel
theorem dX10_template_56 : decode cX10_template 56 = .ok (.aload_n 3, 1) := by decide +kernel
theorem dX10_template_57 : decode cX10_template 57 = .ok (.getfield 230, 3) := by decide +kernel
theorem dX10_template_60 : decode cX10_template 60 = .ok (.iload_n 2, 1) := by decide +kernel
theorem dX10_template_61 : decode cX10_template 61 = .ok (.iconst 3, 1) := by decide +kernel
theorem dX10_template_62 : decode cX10_template 62 = .ok (.isub, 1) := by decide +kernel
theorem dX10_template_63 : decode cX10_template 63 = .ok (.iaload, 1) := by decide +kernel
theorem dX10_template_64 : decode cX10_template 64 = .ok (.bipush 10, 2) := by decide +kernel
theorem dX10_template_66 : decode cX10_template 66 = .ok (.iadd, 1) := by decide +kernel
theorem dX10_template_67 : decode cX10_template 67 = .ok (.ireturn, 1) := by decide +kernel
set_option maxRecDepth 20000 in
theorem ggX10_occurrence_X10_isWord : GoodIn wsX10_occurrence wsX10_isWord := goodIn_r _ [10] rfl (by decide +kernel)
set_option maxRecDepth 20000 in
theorem gX10_occurrence_X10_isWord : GoodIn wsX10_occurrence (va_wsS RX10 117 yX10_isWord wsX10_isWord) := goodIn_app (goodIn_r _ [7, 8, 9] rfl (by decide +kernel)) ggX10_occurrence_X10_isWord
set_option maxRecDepth 20000 in
theorem ggX10_occurrence_X0_has : GoodIn wsX10_occurrence wsX0_has := goodIn_r _ [15, 16, 100, 101, 102, 103, 104, 105, 106, 107, 108, 109, 110, 111, 112, 113] rfl (by decide +kernel)
set_option maxRecDepth 20000 in
theorem gX10_occurrence_X0_has : GoodIn wsX10_occurrence (wsV RX10 217 RX0 yX0_has wsX0_has) := goodIn_app (goodIn_r _ [11, 12, 13, 14] rfl (by decide +kernel)) ggX10_occurrence_X0_has
set_option maxRecDepth 20000 in
theorem ggX10_occurrence_X8_begin : GoodIn wsX10_occurrence wsX8_begin := goodIn_r _ [21, 22, 23, 24, 25, 26, 27, 120, 121, 122, 123, 124, 125, 126, 127, 128, 114, 115, 116, 117, 118, 119] rfl (by decide +kernel)
set_option maxRecDepth 20000 in
theorem gX10_occurrence_X8_begin : GoodIn wsX10_occurrence (wsV RX10 136 RX8 yX8_begin wsX8_begin) := goodIn_app (goodIn_r _ [17, 18, 19, 20] rfl (by decide +kernel)) ggX10_occurrence_X8_begin
set_option maxRecDepth 20000 in
theorem ggX10_occurrence_X8_pushAll : GoodIn wsX10_occurrence wsX8_pushAll := goodIn_r _ [31, 32, 33, 34, 35, 36, 20, 37, 22, 38, 39, 26, 40, 41, 42, 43, 44, 23, 45, 46, 47, 48, 49, 50, 129, 130, 120, 121, 122, 123, 124, 125, 126, 127, 128] rfl (by decide +kernel)
set_option maxRecDepth 20000 in
theorem gX10_occurrence_X8_pushAll : GoodIn wsX10_occurrence (wsV RX10 140 RX8 yX8_pushAll wsX8_pushAll) := goodIn_app (goodIn_r _ [28, 29, 30, 20] rfl (by decide +kernel)) ggX10_occurrence_X8_pushAll
set_option maxRecDepth 20000 in
theorem ggX10_occurrence_X0_read : GoodIn wsX10_occurrence wsX0_read := goodIn_r _ [54, 55, 56, 57, 58, 59, 60, 61, 62, 63, 64, 100, 101, 102, 103, 104, 105, 106, 107, 108, 109, 110, 111, 112, 113, 131, 132] rfl (by decide +kernel)
set_option maxRecDepth 20000 in
theorem gX10_occurrence_X0_read : GoodIn wsX10_occurrence (wsV RX10 221 RX0 yX0_read wsX0_read) := goodIn_app (goodIn_r _ [51, 52, 53, 14] rfl (by decide +kernel)) ggX10_occurrence_X0_read
set_option maxRecDepth 20000 in
theorem ggX10_occurrence_X8_firstMatch : GoodIn wsX10_occurrence wsX8_firstMatch := goodIn_r _ [68, 22, 69, 70, 71, 72, 20, 73, 38, 74, 75, 76, 77, 41, 42, 43, 44, 39, 78, 79, 61, 80, 81, 82, 83, 84, 63, 85, 86, 87, 88, 89, 26, 120, 121, 122, 123, 124, 125, 126, 127, 128, 131, 132] rfl (by decide +kernel)
set_option maxRecDepth 20000 in
theorem gX10_occurrence_X8_firstMatch : GoodIn wsX10_occurrence (wsV RX10 233 RX8 yX8_firstMatch wsX8_firstMatch) := goodIn_app (goodIn_r _ [65, 66, 67, 20] rfl (by decide +kernel)) ggX10_occurrence_X8_firstMatch
theorem dX10_occurrence_0 : decode cX10_occurrence 0 = .ok (.iload_n 1, 1) := by decide +kernel
theorem dX10_occurrence_1 : decode cX10_occurrence 1 = .ok (.invokestatic 117, 3) := by decide +kernel
theorem dX10_occurrence_4 : decode cX10_occurrence 4 = .ok (.ifCond .ne 5, 3) := by decide +kernel
theorem dX10_occurrence_7 : decode cX10_occurrence 7 = .ok (.iconst (-1), 1) := by decide +kernel
theorem dX10_occurrence_8 : decode cX10_occurrence 8 = .ok (.ireturn, 1) := by decide +kernel
theorem dX10_occurrence_9 : decode cX10_occurrence 9 = .ok (.aload_n 0, 1) := by decide +kernel
theorem dX10_occurrence_10 : decode cX10_occurrence 10 = .ok (.getfield 59, 3) := by decide +kernel
theorem dX10_occurrence_13 : decode cX10_occurrence 13 = .ok (.iload_n 2, 1) := by decide +kernel
theorem dX10_occurrence_14 : decode cX10_occurrence 14 = .ok (.invokevirtual 217, 3) := by decide +kernel
theorem dX10_occurrence_17 : decode cX10_occurrence 17 = .ok (.ifCond .eq 20, 3) := by decide +kernel
theorem dX10_occurrence_20 : decode cX10_occurrence 20 = .ok (.aload_n 0, 1) := by decide +kernel
theorem dX10_occurrence_21 : decode cX10_occurrence 21 = .ok (.getfield 59, 3) := by decide +kernel
theorem dX10_occurrence_24 : decode cX10_occurrence 24 = .ok (.getfield 220, 3) := by decide +kernel
theorem dX10_occurrence_27 : decode cX10_occurrence 27 = .ok (.aload_n 0, 1) := by decide +kernel
theorem dX10_occurrence_28 : decode cX10_occurrence 28 = .ok (.getfield 19, 3) := by decide +kernel
theorem dX10_occurrence_31 : decode cX10_occurrence 31 = .ok (.getfield 103, 3) := by decide +kernel
theorem dX10_occurrence_34 : decode cX10_occurrence 34 = .ok (.if_icmp .eq 6, 3) := by decide +kernel
theorem dX10_occurrence_37 : decode cX10_occurrence 37 = .ok (.bipush (-2), 2) := by decide +kernel
theorem dX10_occurrence_39 : decode cX10_occurrence 39 = .ok (.ireturn, 1) := by decide +kernel
theorem dX10_occurrence_40 : decode cX10_occurrence 40 = .ok (.aload_n 0, 1) := by decide +kernel
theorem dX10_occurrence_41 : decode cX10_occurrence 41 = .ok (.getfield 38, 3) := by decide +kernel
theorem dX10_occurrence_44 : decode cX10_occurrence 44 = .ok (.iconst 1, 1) := by decide +kernel
theorem dX10_occurrence_45 : decode cX10_occurrence 45 = .ok (.aload_n 0, 1) := by decide +kernel
theorem dX10_occurrence_46 : decode cX10_occurrence 46 = .ok (.getfield 19, 3) := by decide +kernel
theorem dX10_occurrence_49 : decode cX10_occurrence 49 = .ok (.invokevirtual 136, 3) := by decide +kernel
theorem dX10_occurrence_52 : decode cX10_occurrence 52 = .ok (.aload_n 0, 1) := by decide +kernel
theorem dX10_occurrence_53 : decode cX10_occurrence 53 = .ok (.getfield 38, 3) := by decide +kernel
theorem dX10_occurrence_56 : decode cX10_occurrence 56 = .ok (.aload_n 0, 1) := by decide +kernel
theorem dX10_occurrence_57 : decode cX10_occurrence 57 = .ok (.getfield 19, 3) := by decide +kernel
theorem dX10_occurrence_60 : decode cX10_occurrence 60 = .ok (.getfield 120, 3) := by decide +kernel
theorem dX10_occurrence_63 : decode cX10_occurrence 63 = .ok (.iload_n 1, 1) := by decide +kernel
theorem dX10_occurrence_64 : decode cX10_occurrence 64 = .ok (.aaload, 1) := by decide +kernel
theorem dX10_occurrence_65 : decode cX10_occurrence 65 = .ok (.invokevirtual 140, 3) := by decide +kernel
theorem dX10_occurrence_68 : decode cX10_occurrence 68 = .ok (.aload_n 0, 1) := by decide +kernel
theorem dX10_occurrence_69 : decode cX10_occurrence 69 = .ok (.getfield 38, 3) := by decide +kernel
theorem dX10_occurrence_72 : decode cX10_occurrence 72 = .ok (.aload_n 0, 1) := by decide +kernel
theorem dX10_occurrence_73 : decode cX10_occurrence 73 = .ok (.getfield 59, 3) := by decide +kernel
theorem dX10_occurrence_76 : decode cX10_occurrence 76 = .ok (.iload_n 2, 1) := by decide +kernel
theorem dX10_occurrence_77 : decode cX10_occurrence 77 = .ok (.invokevirtual 221, 3) := by decide +kernel
theorem dX10_occurrence_80 : decode cX10_occurrence 80 = .ok (.invokevirtual 233, 3) := by decide +kernel
theorem dX10_occurrence_83 : decode cX10_occurrence 83 = .ok (.ireturn, 1) := by decide +kernel
set_option maxRecDepth 20000 in
theorem ggX10_newArray_X10_isArray : GoodIn wsX10_newArray wsX10_isArray := goodIn_r _ [5] rfl (by decide +kernel)
set_option maxRecDepth 20000 in
theorem gX10_newArray_X10_isArray : GoodIn wsX10_newArray (va_wsS RX10 237 yX10_isArray wsX10_isArray) := goodIn_app (goodIn_r _ [2, 3, 4] rfl (by decide +kernel)) ggX10_newArray_X10_isArray
set_option maxRecDepth 20000 in
theorem ggX10_newArray_X3_renew : GoodIn wsX10_newArray wsX3_renew := goodIn_r _ [10, 11, 12, 13, 14, 15, 16, 17, 28, 29, 30] rfl (by decide +kernel)
set_option maxRecDepth 20000 in
theorem gX10_newArray_X3_renew : GoodIn wsX10_newArray (wsV RX10 240 RX3 yX3_renew wsX3_renew) := goodIn_app (goodIn_r _ [6, 7, 8, 9] rfl (by decide +kernel)) ggX10_newArray_X3_renew
theorem dX10_newArray_0 : decode cX10_newArray 0 = .ok (.iload_n 1, 1) := by decide +kernel
theorem dX10_newArray_1 : decode cX10_newArray 1 = .ok (.invokestatic 237, 3) := by decide +kernel
theorem dX10_newArray_4 : decode cX10_newArray 4 = .ok (.ifCond .eq 9, 3) := by decide +kernel
theorem dX10_newArray_7 : decode cX10_newArray 7 = .ok (.iload_n 2, 1) := by decide +kernel
theorem dX10_newArray_8 : decode cX10_newArray 8 = .ok (.bipush 41, 2) := by decide +kernel
theorem dX10_newArray_10 : decode cX10_newArray 10 = .ok (.if_icmp .le 5, 3) := by decide +kernel
theorem dX10_newArray_13 : decode cX10_newArray 13 = .ok (.iconst (-1), 1) := by decide +kernel
theorem dX10_newArray_14 : decode cX10_newArray 14 = .ok (.ireturn, 1) := by decide +kernel
theorem dX10_newArray_15 : decode cX10_newArray 15 = .ok (.iload_n 2, 1) := by decide +kernel
theorem dX10_newArray_16 : decode cX10_newArray 16 = .ok (.ifCond .ge 6, 3) := by decide +kernel
theorem dX10_newArray_19 : decode cX10_newArray 19 = .ok (.bipush (-14), 2) := by decide +kernel
theorem dX10_newArray_21 : decode cX10_newArray 21 = .ok (.ireturn, 1) := by decide +kernel
theorem dX10_newArray_22 : decode cX10_newArray 22 = .ok (.aload_n 0, 1) := by decide +kernel
theorem dX10_newArray_23 : decode cX10_newArray 23 = .ok (.getfield 65, 3) := by decide +kernel
theorem dX10_newArray_26 : decode cX10_newArray 26 = .ok (.iload_n 1, 1) := by decide +kernel
theorem dX10_newArray_27 : decode cX10_newArray 27 = .ok (.aaload, 1) := by decide +kernel
theorem dX10_newArray_28 : decode cX10_newArray 28 = .ok (.iload_n 2, 1) := by decide +kernel
theorem dX10_newArray_29 : decode cX10_newArray 29 = .ok (.invokevirtual 240, 3) := by decide +kernel
theorem dX10_newArray_32 : decode cX10_newArray 32 = .ok (.iconst 1, 1) := by decide +kernel
theorem dX10_newArray_33 : decode cX10_newArray 33 = .ok (.ireturn, 1) := by decide +kernel
set_option maxRecDepth 20000 in
theorem ggX10_setElement_X10_isArray : GoodIn wsX10_setElement wsX10_isArray := goodIn_r _ [7] rfl (by decide +kernel)
set_option maxRecDepth 20000 in
theorem gX10_setElement_X10_isArray : GoodIn wsX10_setElement (va_wsS RX10 237 yX10_isArray wsX10_isArray) := goodIn_app (goodIn_r _ [4, 5, 6] rfl (by decide +kernel)) ggX10_setElement_X10_isArray
set_option maxRecDepth 20000 in
theorem ggX10_setElement_X3_has : GoodIn wsX10_setElement wsX3_has := goodIn_r _ [12, 13, 14, 25, 26, 27] rfl (by decide +kernel)
set_option maxRecDepth 20000 in
theorem gX10_setElement_X3_has : GoodIn wsX10_setElement (wsV RX10 247 RX3 yX3_has wsX3_has) := goodIn_app (goodIn_r _ [8, 9, 10, 11] rfl (by decide +kernel)) ggX10_setElement_X3_has
theorem dX10_setElement_0 : decode cX10_setElement 0 = .ok (.iload_n 1, 1) := by decide +kernel
theorem dX10_setElement_1 : decode cX10_setElement 1 = .ok (.invokestatic 237, 3) := by decide +kernel
theorem dX10_setElement_4 : decode cX10_setElement 4 = .ok (.ifCond .ne 5, 3) := by decide +kernel
theorem dX10_setElement_7 : decode cX10_setElement 7 = .ok (.iconst (-1), 1) := by decide +kernel
theorem dX10_setElement_8 : decode cX10_setElement 8 = .ok (.ireturn, 1) := by decide +kernel
theorem dX10_setElement_9 : decode cX10_setElement 9 = .ok (.aload_n 0, 1) := by decide +kernel
theorem dX10_setElement_10 : decode cX10_setElement 10 = .ok (.getfield 65, 3) := by decide +kernel
theorem dX10_setElement_13 : decode cX10_setElement 13 = .ok (.iload_n 1, 1) := by decide +kernel
theorem dX10_setElement_14 : decode cX10_setElement 14 = .ok (.aaload, 1) := by decide +kernel
theorem dX10_setElement_15 : decode cX10_setElement 15 = .ok (.astore 5, 2) := by decide +kernel
theorem dX10_setElement_17 : decode cX10_setElement 17 = .ok (.aload 5, 2) := by decide +kernel
theorem dX10_setElement_19 : decode cX10_setElement 19 = .ok (.getfield 243, 3) := by decide +kernel
theorem dX10_setElement_22 : decode cX10_setElement 22 = .ok (.ifCond .ne 6, 3) := by decide +kernel
theorem dX10_setElement_25 : decode cX10_setElement 25 = .ok (.bipush (-11), 2) := by decide +kernel
theorem dX10_setElement_27 : decode cX10_setElement 27 = .ok (.ireturn, 1) := by decide +kernel
theorem dX10_setElement_28 : decode cX10_setElement 28 = .ok (.aload 5, 2) := by decide +kernel
theorem dX10_setElement_30 : decode cX10_setElement 30 = .ok (.iload_n 2, 1) := by decide +kernel
theorem dX10_setElement_31 : decode cX10_setElement 31 = .ok (.invokevirtual 247, 3) := by decide +kernel
theorem dX10_setElement_34 : decode cX10_setElement 34 = .ok (.ifCond .ne 6, 3) := by decide +kernel
theorem dX10_setElement_37 : decode cX10_setElement 37 = .ok (.bipush (-13), 2) := by decide +kernel
theorem dX10_setElement_39 : decode cX10_setElement 39 = .ok (.ireturn, 1) := by decide +kernel
theorem dX10_setElement_40 : decode cX10_setElement 40 = .ok (.aload 5, 2) := by decide +kernel
theorem dX10_setElement_42 : decode cX10_setElement 42 = .ok (.getfield 248, 3) := by decide +kernel
theorem dX10_setElement_45 : decode cX10_setElement 45 = .ok (.iload_n 2, 1) := by decide +kernel
theorem dX10_setElement_46 : decode cX10_setElement 46 = .ok (.lload_n 3, 1) := by decide +kernel
theorem dX10_setElement_47 : decode cX10_setElement 47 = .ok (.lastore, 1) := by decide +kernel
theorem dX10_setElement_48 : decode cX10_setElement 48 = .ok (.iconst 1, 1) := by decide +kernel
theorem dX10_setElement_49 : decode cX10_setElement 49 = .ok (.ireturn, 1) := by decide +kernel
set_option maxRecDepth 20000 in
theorem ggX10_element_X10_isArray : GoodIn wsX10_element wsX10_isArray := goodIn_r _ [7] rfl (by decide +kernel)
set_option maxRecDepth 20000 in
theorem gX10_element_X10_isArray : GoodIn wsX10_element (va_wsS RX10 237 yX10_isArray wsX10_isArray) := goodIn_app (goodIn_r _ [4, 5, 6] rfl (by decide +kernel)) ggX10_element_X10_isArray
set_option maxRecDepth 20000 in
theorem ggX10_element_X3_has : GoodIn wsX10_element wsX3_has := goodIn_r _ [12, 13, 14, 25, 26, 27] rfl (by decide +kernel)
set_option maxRecDepth 20000 in
theorem gX10_element_X3_has : GoodIn wsX10_element (wsV RX10 247 RX3 yX3_has wsX3_has) := goodIn_app (goodIn_r _ [8, 9, 10, 11] rfl (by decide +kernel)) ggX10_element_X3_has
theorem dX10_element_0 : decode cX10_element 0 = .ok (.iload_n 1, 1) := by decide +kernel
theorem dX10_element_1 : decode cX10_element 1 = .ok (.invokestatic 237, 3) := by decide +kernel
theorem dX10_element_4 : decode cX10_element 4 = .ok (.ifCond .eq 16, 3) := by decide +kernel
theorem dX10_element_7 : decode cX10_element 7 = .ok (.aload_n 0, 1) := by decide +kernel
theorem dX10_element_8 : decode cX10_element 8 = .ok (.getfield 65, 3) := by decide +kernel
theorem dX10_element_11 : decode cX10_element 11 = .ok (.iload_n 1, 1) := by decide +kernel
theorem dX10_element_12 : decode cX10_element 12 = .ok (.aaload, 1) := by decide +kernel
theorem dX10_element_13 : decode cX10_element 13 = .ok (.iload_n 2, 1) := by decide +kernel
theorem dX10_element_14 : decode cX10_element 14 = .ok (.invokevirtual 247, 3) := by decide +kernel
theorem dX10_element_17 : decode cX10_element 17 = .ok (.ifCond .ne 7, 3) := by decide +kernel
theorem dX10_element_20 : decode cX10_element 20 = .ok (.ldc2_w 204, 3) := by decide +kernel
theorem dX10_element_23 : decode cX10_element 23 = .ok (.lreturn, 1) := by decide +kernel
theorem dX10_element_24 : decode cX10_element 24 = .ok (.aload_n 0, 1) := by decide +kernel
theorem dX10_element_25 : decode cX10_element 25 = .ok (.getfield 65, 3) := by decide +kernel
theorem dX10_element_28 : decode cX10_element 28 = .ok (.iload_n 1, 1) := by decide +kernel
theorem dX10_element_29 : decode cX10_element 29 = .ok (.aaload, 1) := by decide +kernel
theorem dX10_element_30 : decode cX10_element 30 = .ok (.getfield 248, 3) := by decide +kernel
theorem dX10_element_33 : decode cX10_element 33 = .ok (.iload_n 2, 1) := by decide +kernel
theorem dX10_element_34 : decode cX10_element 34 = .ok (.laload, 1) := by decide +kernel
theorem dX10_element_35 : decode cX10_element 35 = .ok (.lreturn, 1) := by decide +kernel
set_option maxRecDepth 20000 in
theorem ggX10_prefixSums_X10_isArray : GoodIn wsX10_prefixSums wsX10_isArray := goodIn_r _ [12] rfl (by decide +kernel)
set_option maxRecDepth 20000 in
theorem gX10_prefixSums_X10_isArray : GoodIn wsX10_prefixSums (va_wsS RX10 237 yX10_isArray wsX10_isArray) := goodIn_app (goodIn_r _ [9, 10, 11] rfl (by decide +kernel)) ggX10_prefixSums_X10_isArray
set_option maxRecDepth 20000 in
theorem ggX10_prefixSums_X10_isWord : GoodIn wsX10_prefixSums wsX10_isWord := goodIn_r _ [15] rfl (by decide +kernel)
set_option maxRecDepth 20000 in
theorem gX10_prefixSums_X10_isWord : GoodIn wsX10_prefixSums (va_wsS RX10 117 yX10_isWord wsX10_isWord) := goodIn_app (goodIn_r _ [13, 14, 11] rfl (by decide +kernel)) ggX10_prefixSums_X10_isWord
set_option maxRecDepth 20000 in
theorem ggX10_prefixSums_X3_has : GoodIn wsX10_prefixSums wsX3_has := goodIn_r _ [20, 21, 22, 39, 40, 41] rfl (by decide +kernel)
set_option maxRecDepth 20000 in
theorem gX10_prefixSums_X3_has : GoodIn wsX10_prefixSums (wsV RX10 247 RX3 yX3_has wsX3_has) := goodIn_app (goodIn_r _ [16, 17, 18, 19] rfl (by decide +kernel)) ggX10_prefixSums_X3_has
theorem dX10_prefixSums_0 : decode cX10_prefixSums 0 = .ok (.iload_n 1, 1) := by decide +kernel
theorem dX10_prefixSums_1 : decode cX10_prefixSums 1 = .ok (.invokestatic 237, 3) := by decide +kernel
theorem dX10_prefixSums_4 : decode cX10_prefixSums 4 = .ok (.ifCond .eq 10, 3) := by decide +kernel
theorem dX10_prefixSums_7 : decode cX10_prefixSums 7 = .ok (.iload_n 2, 1) := by decide +kernel
theorem dX10_prefixSums_8 : decode cX10_prefixSums 8 = .ok (.invokestatic 117, 3) := by decide +kernel
theorem dX10_prefixSums_11 : decode cX10_prefixSums 11 = .ok (.ifCond .ne 5, 3) := by decide +kernel
theorem dX10_prefixSums_14 : decode cX10_prefixSums 14 = .ok (.iconst (-1), 1) := by decide +kernel
theorem dX10_prefixSums_15 : decode cX10_prefixSums 15 = .ok (.ireturn, 1) := by decide +kernel
theorem dX10_prefixSums_16 : decode cX10_prefixSums 16 = .ok (.aload_n 0, 1) := by decide +kernel
theorem dX10_prefixSums_17 : decode cX10_prefixSums 17 = .ok (.getfield 65, 3) := by decide +kernel
theorem dX10_prefixSums_20 : decode cX10_prefixSums 20 = .ok (.iload_n 1, 1) := by decide +kernel
theorem dX10_prefixSums_21 : decode cX10_prefixSums 21 = .ok (.aaload, 1) := by decide +kernel
theorem dX10_prefixSums_22 : decode cX10_prefixSums 22 = .ok (.astore_n 3, 1) := by decide +kernel
theorem dX10_prefixSums_23 : decode cX10_prefixSums 23 = .ok (.aload_n 0, 1) := by decide +kernel
theorem dX10_prefixSums_24 : decode cX10_prefixSums 24 = .ok (.getfield 19, 3) := by decide +kernel
theorem dX10_prefixSums_27 : decode cX10_prefixSums 27 = .ok (.getfield 120, 3) := by decide +kernel
theorem dX10_prefixSums_30 : decode cX10_prefixSums 30 = .ok (.iload_n 2, 1) := by decide +kernel
theorem dX10_prefixSums_31 : decode cX10_prefixSums 31 = .ok (.aaload, 1) := by decide +kernel
theorem dX10_prefixSums_32 : decode cX10_prefixSums 32 = .ok (.astore 4, 2) := by decide +kernel
theorem dX10_prefixSums_34 : decode cX10_prefixSums 34 = .ok (.aload_n 3, 1) := by decide +kernel
theorem dX10_prefixSums_35 : decode cX10_prefixSums 35 = .ok (.getfield 243, 3) := by decide +kernel
theorem dX10_prefixSums_38 : decode cX10_prefixSums 38 = .ok (.ifCond .ne 6, 3) := by decide +kernel
theorem dX10_prefixSums_41 : decode cX10_prefixSums 41 = .ok (.bipush (-11), 2) := by decide +kernel
theorem dX10_prefixSums_43 : decode cX10_prefixSums 43 = .ok (.ireturn, 1) := by decide +kernel
theorem dX10_prefixSums_44 : decode cX10_prefixSums 44 = .ok (.aload_n 3, 1) := by decide +kernel
theorem dX10_prefixSums_45 : decode cX10_prefixSums 45 = .ok (.aload 4, 2) := by decide +kernel
theorem dX10_prefixSums_47 : decode cX10_prefixSums 47 = .ok (.getfield 124, 3) := by decide +kernel
theorem dX10_prefixSums_50 : decode cX10_prefixSums 50 = .ok (.invokevirtual 247, 3) := by decide +kernel
theorem dX10_prefixSums_53 : decode cX10_prefixSums 53 = .ok (.ifCond .ne 6, 3) := by decide +kernel
theorem dX10_prefixSums_56 : decode cX10_prefixSums 56 = .ok (.bipush (-13), 2) := by decide +kernel
theorem dX10_prefixSums_58 : decode cX10_prefixSums 58 = .ok (.ireturn, 1) := by decide +kernel
theorem dX10_prefixSums_59 : decode cX10_prefixSums 59 = .ok (.aload_n 3, 1) := by decide +kernel
theorem dX10_prefixSums_60 : decode cX10_prefixSums 60 = .ok (.getfield 248, 3) := by decide +kernel
theorem dX10_prefixSums_63 : decode cX10_prefixSums 63 = .ok (.iconst 0, 1) := by decide +kernel
theorem dX10_prefixSums_64 : decode cX10_prefixSums 64 = .ok (.lconst 0, 1) := by decide +kernel
theorem dX10_prefixSums_65 : decode cX10_prefixSums 65 = .ok (.lastore, 1) := by decide +kernel
theorem dX10_prefixSums_66 : decode cX10_prefixSums 66 = .ok (.iconst 0, 1) := by decide +kernel
theorem dX10_prefixSums_67 : decode cX10_prefixSums 67 = .ok (.istore 5, 2) := by decide +kernel
theorem dX10_prefixSums_69 : decode cX10_prefixSums 69 = .ok (.iload 5, 2) := by decide +kernel
theorem dX10_prefixSums_71 : decode cX10_prefixSums 71 = .ok (.aload 4, 2) := by decide +kernel
theorem dX10_prefixSums_73 : decode cX10_prefixSums 73 = .ok (.getfield 124, 3) := by decide +kernel
theorem dX10_prefixSums_76 : decode cX10_prefixSums 76 = .ok (.if_icmp .ge 43, 3) := by decide +kernel
theorem dX10_prefixSums_79 : decode cX10_prefixSums 79 = .ok (.aload_n 3, 1) := by decide +kernel
theorem dX10_prefixSums_80 : decode cX10_prefixSums 80 = .ok (.getfield 248, 3) := by decide +kernel
theorem dX10_prefixSums_83 : decode cX10_prefixSums 83 = .ok (.iload 5, 2) := by decide +kernel
theorem dX10_prefixSums_85 : decode cX10_prefixSums 85 = .ok (.iconst 1, 1) := by decide +kernel
theorem dX10_prefixSums_86 : decode cX10_prefixSums 86 = .ok (.iadd, 1) := by decide +kernel
theorem dX10_prefixSums_87 : decode cX10_prefixSums 87 = .ok (.aload_n 3, 1) := by decide +kernel
theorem dX10_prefixSums_88 : decode cX10_prefixSums 88 = .ok (.getfield 248, 3) := by decide +kernel
theorem dX10_prefixSums_91 : decode cX10_prefixSums 91 = .ok (.iload 5, 2) := by decide +kernel
theorem dX10_prefixSums_93 : decode cX10_prefixSums 93 = .ok (.laload, 1) := by decide +kernel
theorem dX10_prefixSums_94 : decode cX10_prefixSums 94 = .ok (.aload_n 0, 1) := by decide +kernel
theorem dX10_prefixSums_95 : decode cX10_prefixSums 95 = .ok (.getfield 19, 3) := by decide +kernel
theorem dX10_prefixSums_98 : decode cX10_prefixSums 98 = .ok (.getfield 113, 3) := by decide +kernel
theorem dX10_prefixSums_101 : decode cX10_prefixSums 101 = .ok (.aload 4, 2) := by decide +kernel
theorem dX10_prefixSums_103 : decode cX10_prefixSums 103 = .ok (.getfield 126, 3) := by decide +kernel
theorem dX10_prefixSums_106 : decode cX10_prefixSums 106 = .ok (.iload 5, 2) := by decide +kernel
theorem dX10_prefixSums_108 : decode cX10_prefixSums 108 = .ok (.iaload, 1) := by decide +kernel
theorem dX10_prefixSums_109 : decode cX10_prefixSums 109 = .ok (.iaload, 1) := by decide +kernel
theorem dX10_prefixSums_110 : decode cX10_prefixSums 110 = .ok (.i2l, 1) := by decide +kernel
theorem dX10_prefixSums_111 : decode cX10_prefixSums 111 = .ok (.ladd, 1) := by decide +kernel
theorem dX10_prefixSums_112 : decode cX10_prefixSums 112 = .ok (.lastore, 1) := by decide +kernel
theorem dX10_prefixSums_113 : decode cX10_prefixSums 113 = .ok (.iinc 5 1, 3) := by decide +kernel
theorem dX10_prefixSums_116 : decode cX10_prefixSums 116 = .ok (.goto (-47), 3) := by decide +kernel
theorem dX10_prefixSums_119 : decode cX10_prefixSums 119 = .ok (.aload 4, 2) := by decide +kernel
theorem dX10_prefixSums_121 : decode cX10_prefixSums 121 = .ok (.getfield 124, 3) := by decide +kernel
theorem dX10_prefixSums_124 : decode cX10_prefixSums 124 = .ok (.iconst 1, 1) := by decide +kernel
theorem dX10_prefixSums_125 : decode cX10_prefixSums 125 = .ok (.iadd, 1) := by decide +kernel
theorem dX10_prefixSums_126 : decode cX10_prefixSums 126 = .ok (.ireturn, 1) := by decide +kernel
set_option maxRecDepth 20000 in
theorem ggX10_saveSnapshot_X5_copyFrom : GoodIn wsX10_saveSnapshot wsX5_copyFrom := goodIn_r _ [8, 9, 10, 11, 12, 13, 14, 15, 16, 17, 18, 19, 20, 21, 22, 23, 24, 25, 26, 27, 28, 29, 45, 46, 47, 48, 49, 50, 51, 52] rfl (by decide +kernel)
set_option maxRecDepth 20000 in
theorem gX10_saveSnapshot_X5_copyFrom : GoodIn wsX10_saveSnapshot (wsV RX10 252 RX5 yX5_copyFrom wsX5_copyFrom) := goodIn_app (goodIn_r _ [4, 5, 6, 7] rfl (by decide +kernel)) ggX10_saveSnapshot_X5_copyFrom
set_option maxRecDepth 20000 in
theorem ggX10_saveSnapshot_X5_lettersOfWords : GoodIn wsX10_saveSnapshot wsX5_lettersOfWords := goodIn_r _ [33, 12, 34, 45, 46, 47, 48, 49, 50, 51, 52] rfl (by decide +kernel)
set_option maxRecDepth 20000 in
theorem gX10_saveSnapshot_X5_lettersOfWords : GoodIn wsX10_saveSnapshot (wsV RX10 257 RX5 yX5_lettersOfWords wsX5_lettersOfWords) := goodIn_app (goodIn_r _ [30, 31, 32, 7] rfl (by decide +kernel)) ggX10_saveSnapshot_X5_lettersOfWords
theorem dX10_saveSnapshot_0 : decode cX10_saveSnapshot 0 = .ok (.aload_n 0, 1) := by decide +kernel
theorem dX10_saveSnapshot_1 : decode cX10_saveSnapshot 1 = .ok (.getfield 23, 3) := by decide +kernel
theorem dX10_saveSnapshot_4 : decode cX10_saveSnapshot 4 = .ok (.aload_n 0, 1) := by decide +kernel
theorem dX10_saveSnapshot_5 : decode cX10_saveSnapshot 5 = .ok (.getfield 19, 3) := by decide +kernel
theorem dX10_saveSnapshot_8 : decode cX10_saveSnapshot 8 = .ok (.invokevirtual 252, 3) := by decide +kernel
theorem dX10_saveSnapshot_11 : decode cX10_saveSnapshot 11 = .ok (.aload_n 0, 1) := by decide +kernel
theorem dX10_saveSnapshot_12 : decode cX10_saveSnapshot 12 = .ok (.iconst 1, 1) := by decide +kernel
theorem dX10_saveSnapshot_13 : decode cX10_saveSnapshot 13 = .ok (.putfield 254, 3) := by decide +kernel
theorem dX10_saveSnapshot_16 : decode cX10_saveSnapshot 16 = .ok (.aload_n 0, 1) := by decide +kernel
theorem dX10_saveSnapshot_17 : decode cX10_saveSnapshot 17 = .ok (.getfield 19, 3) := by decide +kernel
theorem dX10_saveSnapshot_20 : decode cX10_saveSnapshot 20 = .ok (.invokevirtual 257, 3) := by decide +kernel
theorem dX10_saveSnapshot_23 : decode cX10_saveSnapshot 23 = .ok (.ireturn, 1) := by decide +kernel
set_option maxRecDepth 20000 in
theorem ggX10_restoreSnapshot_X5_copyFrom : GoodIn wsX10_restoreSnapshot wsX5_copyFrom := goodIn_r _ [8, 9, 10, 11, 12, 13, 14, 15, 16, 17, 18, 19, 20, 21, 22, 23, 24, 25, 26, 27, 28, 29, 45, 46, 47, 48, 49, 50, 51, 52] rfl (by decide +kernel)
set_option maxRecDepth 20000 in
theorem gX10_restoreSnapshot_X5_copyFrom : GoodIn wsX10_restoreSnapshot (wsV RX10 252 RX5 yX5_copyFrom wsX5_copyFrom) := goodIn_app (goodIn_r _ [4, 5, 6, 7] rfl (by decide +kernel)) ggX10_restoreSnapshot_X5_copyFrom
set_option maxRecDepth 20000 in
theorem ggX10_restoreSnapshot_X5_lettersOfWords : GoodIn wsX10_restoreSnapshot wsX5_lettersOfWords := goodIn_r _ [33, 12, 34, 45, 46, 47, 48, 49, 50, 51, 52] rfl (by decide +kernel)
set_option maxRecDepth 20000 in
theorem gX10_restoreSnapshot_X5_lettersOfWords : GoodIn wsX10_restoreSnapshot (wsV RX10 257 RX5 yX5_lettersOfWords wsX5_lettersOfWords) := goodIn_app (goodIn_r _ [30, 31, 32, 7] rfl (by decide +kernel)) ggX10_restoreSnapshot_X5_lettersOfWords
theorem dX10_restoreSnapshot_0 : decode cX10_restoreSnapshot 0 = .ok (.aload_n 0, 1) := by decide +kernel
theorem dX10_restoreSnapshot_1 : decode cX10_restoreSnapshot 1 = .ok (.getfield 254, 3) := by decide +kernel
theorem dX10_restoreSnapshot_4 : decode cX10_restoreSnapshot 4 = .ok (.ifCond .ne 6, 3) := by decide +kernel
theorem dX10_restoreSnapshot_7 : decode cX10_restoreSnapshot 7 = .ok (.bipush (-2), 2) := by decide +kernel
theorem dX10_restoreSnapshot_9 : decode cX10_restoreSnapshot 9 = .ok (.ireturn, 1) := by decide +kernel
theorem dX10_restoreSnapshot_10 : decode cX10_restoreSnapshot 10 = .ok (.aload_n 0, 1) := by decide +kernel
theorem dX10_restoreSnapshot_11 : decode cX10_restoreSnapshot 11 = .ok (.getfield 19, 3) := by decide +kernel
theorem dX10_restoreSnapshot_14 : decode cX10_restoreSnapshot 14 = .ok (.aload_n 0, 1) := by decide +kernel
theorem dX10_restoreSnapshot_15 : decode cX10_restoreSnapshot 15 = .ok (.getfield 23, 3) := by decide +kernel
theorem dX10_restoreSnapshot_18 : decode cX10_restoreSnapshot 18 = .ok (.invokevirtual 252, 3) := by decide +kernel
theorem dX10_restoreSnapshot_21 : decode cX10_restoreSnapshot 21 = .ok (.aload_n 0, 1) := by decide +kernel
theorem dX10_restoreSnapshot_22 : decode cX10_restoreSnapshot 22 = .ok (.getfield 19, 3) := by decide +kernel
theorem dX10_restoreSnapshot_25 : decode cX10_restoreSnapshot 25 = .ok (.invokevirtual 257, 3) := by decide +kernel
theorem dX10_restoreSnapshot_28 : decode cX10_restoreSnapshot 28 = .ok (.ireturn, 1) := by decide +kernel
theorem dX10_isWord_0 : decode cX10_isWord 0 = .ok (.iload_n 0, 1) := by decide +kernel
theorem dX10_isWord_1 : decode cX10_isWord 1 = .ok (.ifCond .lt 12, 3) := by decide +kernel
theorem dX10_isWord_4 : decode cX10_isWord 4 = .ok (.iload_n 0, 1) := by decide +kernel
theorem dX10_isWord_5 : decode cX10_isWord 5 = .ok (.iconst 3, 1) := by decide +kernel
theorem dX10_isWord_6 : decode cX10_isWord 6 = .ok (.if_icmp .ge 7, 3) := by decide +kernel
theorem dX10_isWord_9 : decode cX10_isWord 9 = .ok (.iconst 1, 1) := by decide +kernel
theorem dX10_isWord_10 : decode cX10_isWord 10 = .ok (.goto 4, 3) := by decide +kernel
theorem dX10_isWord_13 : decode cX10_isWord 13 = .ok (.iconst 0, 1) := by decide +kernel
theorem dX10_isWord_14 : decode cX10_isWord 14 = .ok (.ireturn, 1) := by decide +kernel
theorem dX10_isArray_0 : decode cX10_isArray 0 = .ok (.iload_n 0, 1) := by decide +kernel
theorem dX10_isArray_1 : decode cX10_isArray 1 = .ok (.ifCond .lt 12, 3) := by decide +kernel
theorem dX10_isArray_4 : decode cX10_isArray 4 = .ok (.iload_n 0, 1) := by decide +kernel
theorem dX10_isArray_5 : decode cX10_isArray 5 = .ok (.iconst 3, 1) := by decide +kernel
theorem dX10_isArray_6 : decode cX10_isArray 6 = .ok (.if_icmp .ge 7, 3) := by decide +kernel
theorem dX10_isArray_9 : decode cX10_isArray 9 = .ok (.iconst 1, 1) := by decide +kernel
theorem dX10_isArray_10 : decode cX10_isArray 10 = .ok (.goto 4, 3) := by decide +kernel
theorem dX10_isArray_13 : decode cX10_isArray 13 = .ok (.iconst 0, 1) := by decide +kernel
theorem dX10_isArray_14 : decode cX10_isArray 14 = .ok (.ireturn, 1) := by decide +kernel
theorem dX11_init_0 : decode cX11_init 0 = .ok (.aload_n 0, 1) := by decide +kernel
theorem dX11_init_1 : decode cX11_init 1 = .ok (.invokespecial 1, 3) := by decide +kernel
theorem dX11_init_4 : decode cX11_init 4 = .ok (.aload_n 0, 1) := by decide +kernel
theorem dX11_init_5 : decode cX11_init 5 = .ok (.iconst 1, 1) := by decide +kernel
theorem dX11_init_6 : decode cX11_init 6 = .ok (.putfield 7, 3) := by decide +kernel
theorem dX11_init_9 : decode cX11_init 9 = .ok (.aload_n 0, 1) := by decide +kernel
theorem dX11_init_10 : decode cX11_init 10 = .ok (.iconst 2, 1) := by decide +kernel
theorem dX11_init_11 : decode cX11_init 11 = .ok (.putfield 13, 3) := by decide +kernel
theorem dX11_init_14 : decode cX11_init 14 = .ok (.aload_n 0, 1) := by decide +kernel
theorem dX11_init_15 : decode cX11_init 15 = .ok (.iconst 3, 1) := by decide +kernel
theorem dX11_init_16 : decode cX11_init 16 = .ok (.putfield 16, 3) := by decide +kernel
theorem dX11_init_19 : decode cX11_init 19 = .ok (.aload_n 0, 1) := by decide +kernel
theorem dX11_init_20 : decode cX11_init 20 = .ok (.iconst 4, 1) := by decide +kernel
theorem dX11_init_21 : decode cX11_init 21 = .ok (.newarray .int, 2) := by decide +kernel
theorem dX11_init_23 : decode cX11_init 23 = .ok (.dup, 1) := by decide +kernel
theorem dX11_init_24 : decode cX11_init 24 = .ok (.iconst 0, 1) := by decide +kernel
theorem dX11_init_25 : decode cX11_init 25 = .ok (.iconst 0, 1) := by decide +kernel
theorem dX11_init_26 : decode cX11_init 26 = .ok (.iastore, 1) := by decide +kernel
theorem dX11_init_27 : decode cX11_init 27 = .ok (.dup, 1) := by decide +kernel
theorem dX11_init_28 : decode cX11_init 28 = .ok (.iconst 1, 1) := by decide +kernel
theorem dX11_init_29 : decode cX11_init 29 = .ok (.iconst 1, 1) := by decide +kernel
theorem dX11_init_30 : decode cX11_init 30 = .ok (.iastore, 1) := by decide +kernel
theorem dX11_init_31 : decode cX11_init 31 = .ok (.dup, 1) := by decide +kernel
theorem dX11_init_32 : decode cX11_init 32 = .ok (.iconst 2, 1) := by decide +kernel
theorem dX11_init_33 : decode cX11_init 33 = .ok (.iconst 2, 1) := by decide +kernel
theorem dX11_init_34 : decode cX11_init 34 = .ok (.iastore, 1) := by decide +kernel
theorem dX11_init_35 : decode cX11_init 35 = .ok (.dup, 1) := by decide +kernel
theorem dX11_init_36 : decode cX11_init 36 = .ok (.iconst 3, 1) := by decide +kernel
theorem dX11_init_37 : decode cX11_init 37 = .ok (.iconst 3, 1) := by decide +kernel
theorem dX11_init_38 : decode cX11_init 38 = .ok (.iastore, 1) := by decide +kernel
theorem dX11_init_39 : decode cX11_init 39 = .ok (.putfield 19, 3) := by decide +kernel
theorem dX11_init_42 : decode cX11_init 42 = .ok (.aload_n 0, 1) := by decide +kernel
theorem dX11_init_43 : decode cX11_init 43 = .ok (.bipush 120, 2) := by decide +kernel
theorem dX11_init_45 : decode cX11_init 45 = .ok (.newarray .int, 2) := by decide +kernel
theorem dX11_init_47 : decode cX11_init 47 = .ok (.putfield 23, 3) := by decide +kernel
theorem dX11_init_50 : decode cX11_init 50 = .ok (.aload_n 0, 1) := by decide +kernel
theorem dX11_init_51 : decode cX11_init 51 = .ok (.iconst 3, 1) := by decide +kernel
theorem dX11_init_52 : decode cX11_init 52 = .ok (.newarray .int, 2) := by decide +kernel
theorem dX11_init_54 : decode cX11_init 54 = .ok (.putfield 26, 3) := by decide +kernel
theorem dX11_init_57 : decode cX11_init 57 = .ok (.aload_n 0, 1) := by decide +kernel
theorem dX11_init_58 : decode cX11_init 58 = .ok (.bipush 16, 2) := by decide +kernel
theorem dX11_init_60 : decode cX11_init 60 = .ok (.newarray .int, 2) := by decide +kernel
theorem dX11_init_62 : decode cX11_init 62 = .ok (.putfield 29, 3) := by decide +kernel
theorem dX11_init_65 : decode cX11_init 65 = .ok (.aload_n 0, 1) := by decide +kernel
theorem dX11_init_66 : decode cX11_init 66 = .ok (.iconst 4, 1) := by decide +kernel
theorem dX11_init_67 : decode cX11_init 67 = .ok (.newarray .int, 2) := by decide +kernel
theorem dX11_init_69 : decode cX11_init 69 = .ok (.putfield 32, 3) := by decide +kernel
theorem dX11_init_72 : decode cX11_init 72 = .ok (.aload_n 0, 1) := by decide +kernel
theorem dX11_init_73 : decode cX11_init 73 = .ok (.bipush 16, 2) := by decide +kernel
theorem dX11_init_75 : decode cX11_init 75 = .ok (.newarray .int, 2) := by decide +kernel
theorem dX11_init_77 : decode cX11_init 77 = .ok (.putfield 35, 3) := by decide +kernel
theorem dX11_init_80 : decode cX11_init 80 = .ok (.aload_n 0, 1) := by decide +kernel
theorem dX11_init_81 : decode cX11_init 81 = .ok (.bipush 45, 2) := by decide +kernel
theorem dX11_init_83 : decode cX11_init 83 = .ok (.newarray .int, 2) := by decide +kernel
theorem dX11_init_85 : decode cX11_init 85 = .ok (.putfield 38, 3) := by decide +kernel
theorem dX11_init_88 : decode cX11_init 88 = .ok (.aload_n 0, 1) := by decide +kernel
theorem dX11_init_89 : decode cX11_init 89 = .ok (.sipush 1407, 3) := by decide +kernel
theorem dX11_init_92 : decode cX11_init 92 = .ok (.newarray .int, 2) := by decide +kernel
theorem dX11_init_94 : decode cX11_init 94 = .ok (.putfield 41, 3) := by decide +kernel
theorem dX11_init_97 : decode cX11_init 97 = .ok (.aload_n 0, 1) := by decide +kernel
theorem dX11_init_98 : decode cX11_init 98 = .ok (.sipush 1400, 3) := by decide +kernel
theorem dX11_init_101 : decode cX11_init 101 = .ok (.newarray .int, 2) := by decide +kernel
theorem dX11_init_103 : decode cX11_init 103 = .ok (.putfield 44, 3) := by decide +kernel
theorem dX11_init_106 : decode cX11_init 106 = .ok (.aload_n 0, 1) := by decide +kernel
theorem dX11_init_107 : decode cX11_init 107 = .ok (.bipush 7, 2) := by decide +kernel
theorem dX11_init_109 : decode cX11_init 109 = .ok (.newarray .int, 2) := by decide +kernel
theorem dX11_init_111 : decode cX11_init 111 = .ok (.putfield 47, 3) := by decide +kernel
theorem dX11_init_114 : decode cX11_init 114 = .ok (.aload_n 0, 1) := by decide +kernel
theorem dX11_init_115 : decode cX11_init 115 = .ok (.iconst 3, 1) := by decide +kernel
theorem dX11_init_116 : decode cX11_init 116 = .ok (.newarray .int, 2) := by decide +kernel
theorem dX11_init_118 : decode cX11_init 118 = .ok (.putfield 50, 3) := by decide +kernel
theorem dX11_init_121 : decode cX11_init 121 = .ok (.aload_n 0, 1) := by decide +kernel
theorem dX11_init_122 : decode cX11_init 122 = .ok (.iconst 4, 1) := by decide +kernel
theorem dX11_init_123 : decode cX11_init 123 = .ok (.newarray .int, 2) := by decide +kernel
theorem dX11_init_125 : decode cX11_init 125 = .ok (.putfield 53, 3) := by decide +kernel
theorem dX11_init_128 : decode cX11_init 128 = .ok (.aload_n 0, 1) := by decide +kernel
theorem dX11_init_129 : decode cX11_init 129 = .ok (.sipush 201, 3) := by decide +kernel
theorem dX11_init_132 : decode cX11_init 132 = .ok (.newarray .boolean, 2) := by decide +kernel
theorem dX11_init_134 : decode cX11_init 134 = .ok (.putfield 56, 3) := by decide +kernel
theorem dX11_init_137 : decode cX11_init 137 = .ok (.aload_n 0, 1) := by decide +kernel
theorem dX11_init_138 : decode cX11_init 138 = .ok (.bipush 7, 2) := by decide +kernel
theorem dX11_init_140 : decode cX11_init 140 = .ok (.newarray .int, 2) := by decide +kernel
theorem dX11_init_142 : decode cX11_init 142 = .ok (.putfield 60, 3) := by decide +kernel
theorem dX11_init_145 : decode cX11_init 145 = .ok (.aload_n 0, 1) := by decide +kernel
theorem dX11_init_146 : decode cX11_init 146 = .ok (.iconst 3, 1) := by decide +kernel
theorem dX11_init_147 : decode cX11_init 147 = .ok (.newarray .int, 2) := by decide +kernel
theorem dX11_init_149 : decode cX11_init 149 = .ok (.dup, 1) := by decide +kernel
theorem dX11_init_150 : decode cX11_init 150 = .ok (.iconst 0, 1) := by decide +kernel
theorem dX11_init_151 : decode cX11_init 151 = .ok (.iconst (-1), 1) := by decide +kernel
theorem dX11_init_152 : decode cX11_init 152 = .ok (.iastore, 1) := by decide +kernel
theorem dX11_init_153 : decode cX11_init 153 = .ok (.dup, 1) := by decide +kernel
theorem dX11_init_154 : decode cX11_init 154 = .ok (.iconst 1, 1) := by decide +kernel
theorem dX11_init_155 : decode cX11_init 155 = .ok (.iconst (-1), 1) := by decide +kernel
theorem dX11_init_156 : decode cX11_init 156 = .ok (.iastore, 1) := by decide +kernel
theorem dX11_init_157 : decode cX11_init 157 = .ok (.dup, 1) := by decide +kernel
theorem dX11_init_158 : decode cX11_init 158 = .ok (.iconst 2, 1) := by decide +kernel
theorem dX11_init_159 : decode cX11_init 159 = .ok (.iconst (-1), 1) := by decide +kernel
theorem dX11_init_160 : decode cX11_init 160 = .ok (.iastore, 1) := by decide +kernel
theorem dX11_init_161 : decode cX11_init 161 = .ok (.putfield 63, 3) := by decide +kernel
theorem dX11_init_164 : decode cX11_init 164 = .ok (.aload_n 0, 1) := by decide +kernel
theorem dX11_init_165 : decode cX11_init 165 = .ok (.bipush 123, 2) := by decide +kernel
theorem dX11_init_167 : decode cX11_init 167 = .ok (.newarray .long, 2) := by decide +kernel
theorem dX11_init_169 : decode cX11_init 169 = .ok (.putfield 66, 3) := by decide +kernel
theorem dX11_init_172 : decode cX11_init 172 = .ok (.aload_n 0, 1) := by decide +kernel
theorem dX11_init_173 : decode cX11_init 173 = .ok (.iconst 4, 1) := by decide +kernel
theorem dX11_init_174 : decode cX11_init 174 = .ok (.newarray .int, 2) := by decide +kernel
theorem dX11_init_176 : decode cX11_init 176 = .ok (.putfield 70, 3) := by decide +kernel
theorem dX11_init_179 : decode cX11_init 179 = .ok (.aload_n 0, 1) := by decide +kernel
theorem dX11_init_180 : decode cX11_init 180 = .ok (.bipush 120, 2) := by decide +kernel
theorem dX11_init_182 : decode cX11_init 182 = .ok (.newarray .int, 2) := by decide +kernel
theorem dX11_init_184 : decode cX11_init 184 = .ok (.putfield 73, 3) := by decide +kernel
theorem dX11_init_187 : decode cX11_init 187 = .ok (.aload_n 0, 1) := by decide +kernel
theorem dX11_init_188 : decode cX11_init 188 = .ok (.iconst 3, 1) := by decide +kernel
theorem dX11_init_189 : decode cX11_init 189 = .ok (.newarray .int, 2) := by decide +kernel
theorem dX11_init_191 : decode cX11_init 191 = .ok (.putfield 76, 3) := by decide +kernel
theorem dX11_init_194 : decode cX11_init 194 = .ok (.aload_n 0, 1) := by decide +kernel
theorem dX11_init_195 : decode cX11_init 195 = .ok (.bipush 16, 2) := by decide +kernel
theorem dX11_init_197 : decode cX11_init 197 = .ok (.newarray .int, 2) := by decide +kernel
theorem dX11_init_199 : decode cX11_init 199 = .ok (.putfield 79, 3) := by decide +kernel
theorem dX11_init_202 : decode cX11_init 202 = .ok (.aload_n 0, 1) := by decide +kernel
theorem dX11_init_203 : decode cX11_init 203 = .ok (.iconst 4, 1) := by decide +kernel
theorem dX11_init_204 : decode cX11_init 204 = .ok (.newarray .int, 2) := by decide +kernel
theorem dX11_init_206 : decode cX11_init 206 = .ok (.putfield 82, 3) := by decide +kernel
theorem dX11_init_209 : decode cX11_init 209 = .ok (.return_, 1) := by decide +kernel
theorem dX11_isIn_0 : decode cX11_isIn 0 = .ok (.iload_n 0, 1) := by decide +kernel
theorem dX11_isIn_1 : decode cX11_isIn 1 = .ok (.iload_n 1, 1) := by decide +kernel
theorem dX11_isIn_2 : decode cX11_isIn 2 = .ok (.if_icmp .lt 12, 3) := by decide +kernel
theorem dX11_isIn_5 : decode cX11_isIn 5 = .ok (.iload_n 0, 1) := by decide +kernel
theorem dX11_isIn_6 : decode cX11_isIn 6 = .ok (.iload_n 2, 1) := by decide +kernel
theorem dX11_isIn_7 : decode cX11_isIn 7 = .ok (.if_icmp .gt 7, 3) := by decide +kernel
theorem dX11_isIn_10 : decode cX11_isIn 10 = .ok (.iconst 1, 1) := by decide +kernel
theorem dX11_isIn_11 : decode cX11_isIn 11 = .ok (.goto 4, 3) := by decide +kernel
theorem dX11_isIn_14 : decode cX11_isIn 14 = .ok (.iconst 0, 1) := by decide +kernel
theorem dX11_isIn_15 : decode cX11_isIn 15 = .ok (.ireturn, 1) := by decide +kernel
set_option maxRecDepth 20000 in
theorem ggX11_feed_X11_isIn : GoodIn wsX11_feed wsX11_isIn := goodIn_r _ [6] rfl (by decide +kernel)
set_option maxRecDepth 20000 in
theorem gX11_feed_X11_isIn : GoodIn wsX11_feed (va_wsS RX11 85 yX11_isIn wsX11_isIn) := goodIn_app (goodIn_r _ [3, 4, 5] rfl (by decide +kernel)) ggX11_feed_X11_isIn
theorem dX11_feed_0 : decode cX11_feed 0 = .ok (.iload_n 1, 1) := by decide +kernel
theorem dX11_feed_1 : decode cX11_feed 1 = .ok (.iconst 1, 1) := by decide +kernel
theorem dX11_feed_2 : decode cX11_feed 2 = .ok (.bipush 127, 2) := by decide +kernel
theorem dX11_feed_4 : decode cX11_feed 4 = .ok (.invokestatic 85, 3) := by decide +kernel
theorem dX11_feed_7 : decode cX11_feed 7 = .ok (.ifCond .ne 5, 3) := by decide +kernel
theorem dX11_feed_10 : decode cX11_feed 10 = .ok (.iconst (-1), 1) := by decide +kernel
theorem dX11_feed_11 : decode cX11_feed 11 = .ok (.ireturn, 1) := by decide +kernel
theorem dX11_feed_12 : decode cX11_feed 12 = .ok (.aload_n 0, 1) := by decide +kernel
theorem dX11_feed_13 : decode cX11_feed 13 = .ok (.getfield 89, 3) := by decide +kernel
theorem dX11_feed_16 : decode cX11_feed 16 = .ok (.bipush 16, 2) := by decide +kernel
theorem dX11_feed_18 : decode cX11_feed 18 = .ok (.if_icmp .ne 6, 3) := by decide +kernel
theorem dX11_feed_21 : decode cX11_feed 21 = .ok (.bipush (-3), 2) := by decide +kernel
theorem dX11_feed_23 : decode cX11_feed 23 = .ok (.ireturn, 1) := by decide +kernel
theorem dX11_feed_24 : decode cX11_feed 24 = .ok (.aload_n 0, 1) := by decide +kernel
theorem dX11_feed_25 : decode cX11_feed 25 = .ok (.getfield 35, 3) := by decide +kernel
theorem dX11_feed_28 : decode cX11_feed 28 = .ok (.aload_n 0, 1) := by decide +kernel
theorem dX11_feed_29 : decode cX11_feed 29 = .ok (.getfield 89, 3) := by decide +kernel
theorem dX11_feed_32 : decode cX11_feed 32 = .ok (.iload_n 1, 1) := by decide +kernel
theorem dX11_feed_33 : decode cX11_feed 33 = .ok (.iastore, 1) := by decide +kernel
theorem dX11_feed_34 : decode cX11_feed 34 = .ok (.aload_n 0, 1) := by decide +kernel
theorem dX11_feed_35 : decode cX11_feed 35 = .ok (.dup, 1) := by decide +kernel
theorem dX11_feed_36 : decode cX11_feed 36 = .ok (.getfield 89, 3) := by decide +kernel
theorem dX11_feed_39 : decode cX11_feed 39 = .ok (.iconst 1, 1) := by decide +kernel
theorem dX11_feed_40 : decode cX11_feed 40 = .ok (.iadd, 1) := by decide +kernel
theorem dX11_feed_41 : decode cX11_feed 41 = .ok (.putfield 89, 3) := by decide +kernel
theorem dX11_feed_44 : decode cX11_feed 44 = .ok (.aload_n 0, 1) := by decide +kernel
theorem dX11_feed_45 : decode cX11_feed 45 = .ok (.getfield 89, 3) := by decide +kernel
theorem dX11_feed_48 : decode cX11_feed 48 = .ok (.ireturn, 1) := by decide +kernel
theorem dX11_nameAt_0 : decode cX11_nameAt 0 = .ok (.iload_n 0, 1) := by decide +kernel
theorem dX11_nameAt_1 : decode cX11_nameAt 1 = .ok (.tableswitch 233 0 2 #[27, 78, 150], 27) := by decide +kernel
theorem dX11_nameAt_28 : decode cX11_nameAt 28 = .ok (.iload_n 1, 1) := by decide +kernel
theorem dX11_nameAt_29 : decode cX11_nameAt 29 = .ok (.ifCond .ne 8, 3) := by decide +kernel
theorem dX11_nameAt_32 : decode cX11_nameAt 32 = .ok (.bipush 101, 2) := by decide +kernel
theorem dX11_nameAt_34 : decode cX11_nameAt 34 = .ok (.goto 44, 3) := by decide +kernel
theorem dX11_nameAt_37 : decode cX11_nameAt 37 = .ok (.iload_n 1, 1) := by decide +kernel
theorem dX11_nameAt_38 : decode cX11_nameAt 38 = .ok (.iconst 1, 1) := by decide +kernel
theorem dX11_nameAt_39 : decode cX11_nameAt 39 = .ok (.if_icmp .ne 8, 3) := by decide +kernel
theorem dX11_nameAt_42 : decode cX11_nameAt 42 = .ok (.bipush 113, 2) := by decide +kernel
theorem dX11_nameAt_44 : decode cX11_nameAt 44 = .ok (.goto 34, 3) := by decide +kernel
theorem dX11_nameAt_47 : decode cX11_nameAt 47 = .ok (.iload_n 1, 1) := by decide +kernel
theorem dX11_nameAt_48 : decode cX11_nameAt 48 = .ok (.iconst 2, 1) := by decide +kernel
theorem dX11_nameAt_49 : decode cX11_nameAt 49 = .ok (.if_icmp .ne 8, 3) := by decide +kernel
theorem dX11_nameAt_52 : decode cX11_nameAt 52 = .ok (.bipush 117, 2) := by decide +kernel
theorem dX11_nameAt_54 : decode cX11_nameAt 54 = .ok (.goto 24, 3) := by decide +kernel
theorem dX11_nameAt_57 : decode cX11_nameAt 57 = .ok (.iload_n 1, 1) := by decide +kernel
theorem dX11_nameAt_58 : decode cX11_nameAt 58 = .ok (.iconst 3, 1) := by decide +kernel
theorem dX11_nameAt_59 : decode cX11_nameAt 59 = .ok (.if_icmp .ne 8, 3) := by decide +kernel
theorem dX11_nameAt_62 : decode cX11_nameAt 62 = .ok (.bipush 97, 2) := by decide +kernel
theorem dX11_nameAt_64 : decode cX11_nameAt 64 = .ok (.goto 14, 3) := by decide +kernel
theorem dX11_nameAt_67 : decode cX11_nameAt 67 = .ok (.iload_n 1, 1) := by decide +kernel
theorem dX11_nameAt_68 : decode cX11_nameAt 68 = .ok (.iconst 4, 1) := by decide +kernel
theorem dX11_nameAt_69 : decode cX11_nameAt 69 = .ok (.if_icmp .ne 8, 3) := by decide +kernel
theorem dX11_nameAt_72 : decode cX11_nameAt 72 = .ok (.bipush 108, 2) := by decide +kernel
theorem dX11_nameAt_74 : decode cX11_nameAt 74 = .ok (.goto 4, 3) := by decide +kernel
theorem dX11_nameAt_77 : decode cX11_nameAt 77 = .ok (.iconst 0, 1) := by decide +kernel
theorem dX11_nameAt_78 : decode cX11_nameAt 78 = .ok (.ireturn, 1) := by decide +kernel
theorem dX11_nameAt_79 : decode cX11_nameAt 79 = .ok (.iload_n 1, 1) := by decide +kernel
theorem dX11_nameAt_80 : decode cX11_nameAt 80 = .ok (.ifCond .ne 8, 3) := by decide +kernel
theorem dX11_nameAt_83 : decode cX11_nameAt 83 = .ok (.bipush 97, 2) := by decide +kernel
theorem dX11_nameAt_85 : decode cX11_nameAt 85 = .ok (.goto 65, 3) := by decide +kernel
theorem dX11_nameAt_88 : decode cX11_nameAt 88 = .ok (.iload_n 1, 1) := by decide +kernel
theorem dX11_nameAt_89 : decode cX11_nameAt 89 = .ok (.iconst 1, 1) := by decide +kernel
theorem dX11_nameAt_90 : decode cX11_nameAt 90 = .ok (.if_icmp .ne 8, 3) := by decide +kernel
theorem dX11_nameAt_93 : decode cX11_nameAt 93 = .ok (.bipush 98, 2) := by decide +kernel
theorem dX11_nameAt_95 : decode cX11_nameAt 95 = .ok (.goto 55, 3) := by decide +kernel
theorem dX11_nameAt_98 : decode cX11_nameAt 98 = .ok (.iload_n 1, 1) := by decide +kernel
theorem dX11_nameAt_99 : decode cX11_nameAt 99 = .ok (.iconst 2, 1) := by decide +kernel
theorem dX11_nameAt_100 : decode cX11_nameAt 100 = .ok (.if_icmp .ne 8, 3) := by decide +kernel
theorem dX11_nameAt_103 : decode cX11_nameAt 103 = .ok (.bipush 101, 2) := by decide +kernel
theorem dX11_nameAt_105 : decode cX11_nameAt 105 = .ok (.goto 45, 3) := by decide +kernel
theorem dX11_nameAt_108 : decode cX11_nameAt 108 = .ok (.iload_n 1, 1) := by decide +kernel
theorem dX11_nameAt_109 : decode cX11_nameAt 109 = .ok (.iconst 3, 1) := by decide +kernel
theorem dX11_nameAt_110 : decode cX11_nameAt 110 = .ok (.if_icmp .ne 8, 3) := by decide +kernel
theorem dX11_nameAt_113 : decode cX11_nameAt 113 = .ok (.bipush 108, 2) := by decide +kernel
theorem dX11_nameAt_115 : decode cX11_nameAt 115 = .ok (.goto 35, 3) := by decide +kernel
theorem dX11_nameAt_118 : decode cX11_nameAt 118 = .ok (.iload_n 1, 1) := by decide +kernel
theorem dX11_nameAt_119 : decode cX11_nameAt 119 = .ok (.iconst 4, 1) := by decide +kernel
theorem dX11_nameAt_120 : decode cX11_nameAt 120 = .ok (.if_icmp .ne 8, 3) := by decide +kernel
theorem dX11_nameAt_123 : decode cX11_nameAt 123 = .ok (.bipush 105, 2) := by decide +kernel
theorem dX11_nameAt_125 : decode cX11_nameAt 125 = .ok (.goto 25, 3) := by decide +kernel
theorem dX11_nameAt_128 : decode cX11_nameAt 128 = .ok (.iload_n 1, 1) := by decide +kernel
theorem dX11_nameAt_129 : decode cX11_nameAt 129 = .ok (.iconst 5, 1) := by decide +kernel
theorem dX11_nameAt_130 : decode cX11_nameAt 130 = .ok (.if_icmp .ne 8, 3) := by decide +kernel
theorem dX11_nameAt_133 : decode cX11_nameAt 133 = .ok (.bipush 97, 2) := by decide +kernel
theorem dX11_nameAt_135 : decode cX11_nameAt 135 = .ok (.goto 15, 3) := by decide +kernel
theorem dX11_nameAt_138 : decode cX11_nameAt 138 = .ok (.iload_n 1, 1) := by decide +kernel
theorem dX11_nameAt_139 : decode cX11_nameAt 139 = .ok (.bipush 6, 2) := by decide +kernel
theorem dX11_nameAt_141 : decode cX11_nameAt 141 = .ok (.if_icmp .ne 8, 3) := by decide +kernel
theorem dX11_nameAt_144 : decode cX11_nameAt 144 = .ok (.bipush 110, 2) := by decide +kernel
theorem dX11_nameAt_146 : decode cX11_nameAt 146 = .ok (.goto 4, 3) := by decide +kernel
theorem dX11_nameAt_149 : decode cX11_nameAt 149 = .ok (.iconst 0, 1) := by decide +kernel
theorem dX11_nameAt_150 : decode cX11_nameAt 150 = .ok (.ireturn, 1) := by decide +kernel
theorem dX11_nameAt_151 : decode cX11_nameAt 151 = .ok (.iload_n 1, 1) := by decide +kernel
theorem dX11_nameAt_152 : decode cX11_nameAt 152 = .ok (.ifCond .ne 8, 3) := by decide +kernel
theorem dX11_nameAt_155 : decode cX11_nameAt 155 = .ok (.bipush 97, 2) := by decide +kernel
theorem dX11_nameAt_157 : decode cX11_nameAt 157 = .ok (.goto 76, 3) := by decide +kernel
theorem dX11_nameAt_160 : decode cX11_nameAt 160 = .ok (.iload_n 1, 1) := by decide +kernel
theorem dX11_nameAt_161 : decode cX11_nameAt 161 = .ok (.iconst 1, 1) := by decide +kernel
theorem dX11_nameAt_162 : decode cX11_nameAt 162 = .ok (.if_icmp .ne 8, 3) := by decide +kernel
theorem dX11_nameAt_165 : decode cX11_nameAt 165 = .ok (.bipush 100, 2) := by decide +kernel
theorem dX11_nameAt_167 : decode cX11_nameAt 167 = .ok (.goto 66, 3) := by decide +kernel
theorem dX11_nameAt_170 : decode cX11_nameAt 170 = .ok (.iload_n 1, 1) := by decide +kernel
theorem dX11_nameAt_171 : decode cX11_nameAt 171 = .ok (.iconst 2, 1) := by decide +kernel
theorem dX11_nameAt_172 : decode cX11_nameAt 172 = .ok (.if_icmp .ne 8, 3) := by decide +kernel
theorem dX11_nameAt_175 : decode cX11_nameAt 175 = .ok (.bipush 100, 2) := by decide +kernel
theorem dX11_nameAt_177 : decode cX11_nameAt 177 = .ok (.goto 56, 3) := by decide +kernel
theorem dX11_nameAt_180 : decode cX11_nameAt 180 = .ok (.iload_n 1, 1) := by decide +kernel
theorem dX11_nameAt_181 : decode cX11_nameAt 181 = .ok (.iconst 3, 1) := by decide +kernel
theorem dX11_nameAt_182 : decode cX11_nameAt 182 = .ok (.if_icmp .ne 8, 3) := by decide +kernel
theorem dX11_nameAt_185 : decode cX11_nameAt 185 = .ok (.bipush 105, 2) := by decide +kernel
theorem dX11_nameAt_187 : decode cX11_nameAt 187 = .ok (.goto 46, 3) := by decide +kernel
theorem dX11_nameAt_190 : decode cX11_nameAt 190 = .ok (.iload_n 1, 1) := by decide +kernel
theorem dX11_nameAt_191 : decode cX11_nameAt 191 = .ok (.iconst 4, 1) := by decide +kernel
theorem dX11_nameAt_192 : decode cX11_nameAt 192 = .ok (.if_icmp .ne 8, 3) := by decide +kernel
theorem dX11_nameAt_195 : decode cX11_nameAt 195 = .ok (.bipush 116, 2) := by decide +kernel
theorem dX11_nameAt_197 : decode cX11_nameAt 197 = .ok (.goto 36, 3) := by decide +kernel
theorem dX11_nameAt_200 : decode cX11_nameAt 200 = .ok (.iload_n 1, 1) := by decide +kernel
theorem dX11_nameAt_201 : decode cX11_nameAt 201 = .ok (.iconst 5, 1) := by decide +kernel
theorem dX11_nameAt_202 : decode cX11_nameAt 202 = .ok (.if_icmp .ne 8, 3) := by decide +kernel
theorem dX11_nameAt_205 : decode cX11_nameAt 205 = .ok (.bipush 105, 2) := by decide +kernel
theorem dX11_nameAt_207 : decode cX11_nameAt 207 = .ok (.goto 26, 3) := by decide +kernel
theorem dX11_nameAt_210 : decode cX11_nameAt 210 = .ok (.iload_n 1, 1) := by decide +kernel
theorem dX11_nameAt_211 : decode cX11_nameAt 211 = .ok (.bipush 6, 2) := by decide +kernel
theorem dX11_nameAt_213 : decode cX11_nameAt 213 = .ok (.if_icmp .ne 8, 3) := by decide +kernel
theorem dX11_nameAt_216 : decode cX11_nameAt 216 = .ok (.bipush 118, 2) := by decide +kernel
theorem dX11_nameAt_218 : decode cX11_nameAt 218 = .ok (.goto 15, 3) := by decide +kernel
theorem dX11_nameAt_221 : decode cX11_nameAt 221 = .ok (.iload_n 1, 1) := by decide +kernel
theorem dX11_nameAt_222 : decode cX11_nameAt 222 = .ok (.bipush 7, 2) := by decide +kernel
theorem dX11_nameAt_224 : decode cX11_nameAt 224 = .ok (.if_icmp .ne 8, 3) := by decide +kernel
theorem dX11_nameAt_227 : decode cX11_nameAt 227 = .ok (.bipush 101, 2) := by decide +kernel
theorem dX11_nameAt_229 : decode cX11_nameAt 229 = .ok (.goto 4, 3) := by decide +kernel
theorem dX11_nameAt_232 : decode cX11_nameAt 232 = .ok (.iconst 0, 1) := by decide +kernel
theorem dX11_nameAt_233 : decode cX11_nameAt 233 = .ok (.ireturn, 1) := by decide +kernel
theorem dX11_nameAt_234 : decode cX11_nameAt 234 = .ok (.iload_n 1, 1) := by decide +kernel
theorem dX11_nameAt_235 : decode cX11_nameAt 235 = .ok (.ifCond .ne 8, 3) := by decide +kernel
theorem dX11_nameAt_238 : decode cX11_nameAt 238 = .ok (.bipush 109, 2) := by decide +kernel
theorem dX11_nameAt_240 : decode cX11_nameAt 240 = .ok (.goto 44, 3) := by decide +kernel
theorem dX11_nameAt_243 : decode cX11_nameAt 243 = .ok (.iload_n 1, 1) := by decide +kernel
theorem dX11_nameAt_244 : decode cX11_nameAt 244 = .ok (.iconst 1, 1) := by decide +kernel
theorem dX11_nameAt_245 : decode cX11_nameAt 245 = .ok (.if_icmp .ne 8, 3) := by decide +kernel
theorem dX11_nameAt_248 : decode cX11_nameAt 248 = .ok (.bipush 105, 2) := by decide +kernel
theorem dX11_nameAt_250 : decode cX11_nameAt 250 = .ok (.goto 34, 3) := by decide +kernel
theorem dX11_nameAt_253 : decode cX11_nameAt 253 = .ok (.iload_n 1, 1) := by decide +kernel
theorem dX11_nameAt_254 : decode cX11_nameAt 254 = .ok (.iconst 2, 1) := by decide +kernel
theorem dX11_nameAt_255 : decode cX11_nameAt 255 = .ok (.if_icmp .ne 8, 3) := by decide +kernel
theorem dX11_nameAt_258 : decode cX11_nameAt 258 = .ok (.bipush 120, 2) := by decide +kernel
theorem dX11_nameAt_260 : decode cX11_nameAt 260 = .ok (.goto 24, 3) := by decide +kernel
theorem dX11_nameAt_263 : decode cX11_nameAt 263 = .ok (.iload_n 1, 1) := by decide +kernel
theorem dX11_nameAt_264 : decode cX11_nameAt 264 = .ok (.iconst 3, 1) := by decide +kernel
theorem dX11_nameAt_265 : decode cX11_nameAt 265 = .ok (.if_icmp .ne 8, 3) := by decide +kernel
theorem dX11_nameAt_268 : decode cX11_nameAt 268 = .ok (.bipush 101, 2) := by decide +kernel
theorem dX11_nameAt_270 : decode cX11_nameAt 270 = .ok (.goto 14, 3) := by decide +kernel
theorem dX11_nameAt_273 : decode cX11_nameAt 273 = .ok (.iload_n 1, 1) := by decide +kernel
theorem dX11_nameAt_274 : decode cX11_nameAt 274 = .ok (.iconst 4, 1) := by decide +kernel
theorem dX11_nameAt_275 : decode cX11_nameAt 275 = .ok (.if_icmp .ne 8, 3) := by decide +kernel
theorem dX11_nameAt_278 : decode cX11_nameAt 278 = .ok (.bipush 100, 2) := by decide +kernel
theorem dX11_nameAt_280 : decode cX11_nameAt 280 = .ok (.goto 4, 3) := by decide +kernel
theorem dX11_nameAt_283 : decode cX11_nameAt 283 = .ok (.iconst 0, 1) := by decide +kernel
theorem dX11_nameAt_284 : decode cX11_nameAt 284 = .ok (.ireturn, 1) := by decide +kernel
theorem dX11_sign_0 : decode cX11_sign 0 = .ok (.aload_n 0, 1) := by decide +kernel
theorem dX11_sign_1 : decode cX11_sign 1 = .ok (.getfield 92, 3) := by decide +kernel
theorem dX11_sign_4 : decode cX11_sign 4 = .ok (.iload_n 1, 1) := by decide +kernel
theorem dX11_sign_5 : decode cX11_sign 5 = .ok (.if_icmp .ge 15, 3) := by decide +kernel
theorem dX11_sign_8 : decode cX11_sign 8 = .ok (.aload_n 0, 1) := by decide +kernel
theorem dX11_sign_9 : decode cX11_sign 9 = .ok (.getfield 35, 3) := by decide +kernel
theorem dX11_sign_12 : decode cX11_sign 12 = .ok (.aload_n 0, 1) := by decide +kernel
theorem dX11_sign_13 : decode cX11_sign 13 = .ok (.getfield 92, 3) := by decide +kernel
theorem dX11_sign_16 : decode cX11_sign 16 = .ok (.iaload, 1) := by decide +kernel
theorem dX11_sign_17 : decode cX11_sign 17 = .ok (.goto 4, 3) := by decide +kernel
theorem dX11_sign_20 : decode cX11_sign 20 = .ok (.iconst 0, 1) := by decide +kernel
theorem dX11_sign_21 : decode cX11_sign 21 = .ok (.ireturn, 1) := by decide +kernel
set_option maxRecDepth 20000 in
theorem ggX11_readKind_X11_nameAt : GoodIn wsX11_readKind wsX11_nameAt := goodIn_r _ [10] rfl (by decide +kernel)
set_option maxRecDepth 20000 in
theorem gX11_readKind_X11_nameAt : GoodIn wsX11_readKind (va_wsS RX11 95 yX11_nameAt wsX11_nameAt) := goodIn_app (goodIn_r _ [7, 8, 9] rfl (by decide +kernel)) ggX11_readKind_X11_nameAt
theorem dX11_readKind_0 : decode cX11_readKind 0 = .ok (.iconst 0, 1) := by decide +kernel
theorem dX11_readKind_1 : decode cX11_readKind 1 = .ok (.istore_n 2, 1) := by decide +kernel
theorem dX11_readKind_2 : decode cX11_readKind 2 = .ok (.iconst 0, 1) := by decide +kernel
theorem dX11_readKind_3 : decode cX11_readKind 3 = .ok (.istore_n 3, 1) := by decide +kernel
theorem dX11_readKind_4 : decode cX11_readKind 4 = .ok (.iload_n 3, 1) := by decide +kernel
theorem dX11_readKind_5 : decode cX11_readKind 5 = .ok (.iconst 4, 1) := by decide +kernel
theorem dX11_readKind_6 : decode cX11_readKind 6 = .ok (.if_icmp .ge 73, 3) := by decide +kernel
theorem dX11_readKind_9 : decode cX11_readKind 9 = .ok (.iconst 0, 1) := by decide +kernel
theorem dX11_readKind_10 : decode cX11_readKind 10 = .ok (.istore 4, 2) := by decide +kernel
theorem dX11_readKind_12 : decode cX11_readKind 12 = .ok (.iload 4, 2) := by decide +kernel
theorem dX11_readKind_14 : decode cX11_readKind 14 = .ok (.iload_n 1, 1) := by decide +kernel
theorem dX11_readKind_15 : decode cX11_readKind 15 = .ok (.if_icmp .ge 34, 3) := by decide +kernel
theorem dX11_readKind_18 : decode cX11_readKind 18 = .ok (.iload_n 3, 1) := by decide +kernel
theorem dX11_readKind_19 : decode cX11_readKind 19 = .ok (.iload 4, 2) := by decide +kernel
theorem dX11_readKind_21 : decode cX11_readKind 21 = .ok (.invokestatic 95, 3) := by decide +kernel
theorem dX11_readKind_24 : decode cX11_readKind 24 = .ok (.ifCond .eq 25, 3) := by decide +kernel
theorem dX11_readKind_27 : decode cX11_readKind 27 = .ok (.iload_n 3, 1) := by decide +kernel
theorem dX11_readKind_28 : decode cX11_readKind 28 = .ok (.iload 4, 2) := by decide +kernel
theorem dX11_readKind_30 : decode cX11_readKind 30 = .ok (.invokestatic 95, 3) := by decide +kernel
theorem dX11_readKind_33 : decode cX11_readKind 33 = .ok (.aload_n 0, 1) := by decide +kernel
theorem dX11_readKind_34 : decode cX11_readKind 34 = .ok (.getfield 35, 3) := by decide +kernel
theorem dX11_readKind_37 : decode cX11_readKind 37 = .ok (.iload 4, 2) := by decide +kernel
theorem dX11_readKind_39 : decode cX11_readKind 39 = .ok (.iaload, 1) := by decide +kernel
theorem dX11_readKind_40 : decode cX11_readKind 40 = .ok (.if_icmp .ne 9, 3) := by decide +kernel
theorem dX11_readKind_43 : decode cX11_readKind 43 = .ok (.iinc 4 1, 3) := by decide +kernel
theorem dX11_readKind_46 : decode cX11_readKind 46 = .ok (.goto (-34), 3) := by decide +kernel
theorem dX11_readKind_49 : decode cX11_readKind 49 = .ok (.iload_n 3, 1) := by decide +kernel
theorem dX11_readKind_50 : decode cX11_readKind 50 = .ok (.iload 4, 2) := by decide +kernel
theorem dX11_readKind_52 : decode cX11_readKind 52 = .ok (.invokestatic 95, 3) := by decide +kernel
theorem dX11_readKind_55 : decode cX11_readKind 55 = .ok (.ifCond .ne 11, 3) := by decide +kernel
theorem dX11_readKind_58 : decode cX11_readKind 58 = .ok (.aload_n 0, 1) := by decide +kernel
theorem dX11_readKind_59 : decode cX11_readKind 59 = .ok (.iload 4, 2) := by decide +kernel
theorem dX11_readKind_61 : decode cX11_readKind 61 = .ok (.putfield 92, 3) := by decide +kernel
theorem dX11_readKind_64 : decode cX11_readKind 64 = .ok (.iload_n 3, 1) := by decide +kernel
theorem dX11_readKind_65 : decode cX11_readKind 65 = .ok (.ireturn, 1) := by decide +kernel
theorem dX11_readKind_66 : decode cX11_readKind 66 = .ok (.iload_n 2, 1) := by decide +kernel
theorem dX11_readKind_67 : decode cX11_readKind 67 = .ok (.iload 4, 2) := by decide +kernel
theorem dX11_readKind_69 : decode cX11_readKind 69 = .ok (.invokestatic 99, 3) := by decide +kernel
theorem dX11_readKind_72 : decode cX11_readKind 72 = .ok (.istore_n 2, 1) := by decide +kernel
theorem dX11_readKind_73 : decode cX11_readKind 73 = .ok (.iinc 3 1, 3) := by decide +kernel
theorem dX11_readKind_76 : decode cX11_readKind 76 = .ok (.goto (-72), 3) := by decide +kernel
theorem dX11_readKind_79 : decode cX11_readKind 79 = .ok (.aload_n 0, 1) := by decide +kernel
theorem dX11_readKind_80 : decode cX11_readKind 80 = .ok (.iload_n 2, 1) := by decide +kernel
theorem dX11_readKind_81 : decode cX11_readKind 81 = .ok (.putfield 92, 3) := by decide +kernel
theorem dX11_readKind_84 : decode cX11_readKind 84 = .ok (.bipush (-2), 2) := by decide +kernel
theorem dX11_readKind_86 : decode cX11_readKind 86 = .ok (.ireturn, 1) := by decide +kernel
set_option maxRecDepth 20000 in
theorem ggX11_parseProblem_X11_readKind : GoodIn wsX11_parseProblem wsX11_readKind := goodIn_r _ [13, 14, 2, 15, 16, 17, 18, 19, 20, 12, 21, 29, 30, 31, 32, 33, 34, 35, 36, 37, 38, 39, 40, 41, 42, 43, 44, 45, 46, 47, 48, 49, 50, 51, 52, 53, 54, 55, 56, 57, 58, 59, 60, 61, 62, 63, 64] rfl (by decide +kernel)
set_option maxRecDepth 20000 in
theorem gX11_parseProblem_X11_readKind : GoodIn wsX11_parseProblem (wsV RX11 104 RX11 yX11_readKind wsX11_readKind) := goodIn_app (goodIn_r _ [9, 10, 11, 12] rfl (by decide +kernel)) ggX11_parseProblem_X11_readKind
set_option maxRecDepth 20000 in
theorem ggX11_parseProblem_X11_sign : GoodIn wsX11_parseProblem wsX11_sign := goodIn_r _ [25, 2, 14, 29, 30, 31, 32, 33, 34, 35, 36, 37, 38, 39, 40, 41, 42, 43, 44, 45, 46, 47, 48, 49, 50, 51, 52, 53, 54, 55, 56, 57, 58, 59, 60, 61, 62, 63, 64] rfl (by decide +kernel)
set_option maxRecDepth 20000 in
theorem gX11_parseProblem_X11_sign : GoodIn wsX11_parseProblem (wsV RX11 108 RX11 yX11_sign wsX11_sign) := goodIn_app (goodIn_r _ [22, 23, 24, 12] rfl (by decide +kernel)) ggX11_parseProblem_X11_sign
set_option maxRecDepth 20000 in
theorem ggX11_parseProblem_X11_isIn : GoodIn wsX11_parseProblem wsX11_isIn := goodIn_r _ [28] rfl (by decide +kernel)
set_option maxRecDepth 20000 in
theorem gX11_parseProblem_X11_isIn : GoodIn wsX11_parseProblem (va_wsS RX11 85 yX11_isIn wsX11_isIn) := goodIn_app (goodIn_r _ [26, 27, 12] rfl (by decide +kernel)) ggX11_parseProblem_X11_isIn
theorem dX11_parseProblem_0 : decode cX11_parseProblem 0 = .ok (.aload_n 0, 1) := by decide +kernel
theorem dX11_parseProblem_1 : decode cX11_parseProblem 1 = .ok (.getfield 89, 3) := by decide +kernel
theorem dX11_parseProblem_4 : decode cX11_parseProblem 4 = .ok (.istore_n 1, 1) := by decide +kernel
theorem dX11_parseProblem_5 : decode cX11_parseProblem 5 = .ok (.aload_n 0, 1) := by decide +kernel
theorem dX11_parseProblem_6 : decode cX11_parseProblem 6 = .ok (.iconst 0, 1) := by decide +kernel
theorem dX11_parseProblem_7 : decode cX11_parseProblem 7 = .ok (.putfield 89, 3) := by decide +kernel
theorem dX11_parseProblem_10 : decode cX11_parseProblem 10 = .ok (.aload_n 0, 1) := by decide +kernel
theorem dX11_parseProblem_11 : decode cX11_parseProblem 11 = .ok (.iload_n 1, 1) := by decide +kernel
theorem dX11_parseProblem_12 : decode cX11_parseProblem 12 = .ok (.invokevirtual 104, 3) := by decide +kernel
theorem dX11_parseProblem_15 : decode cX11_parseProblem 15 = .ok (.istore_n 2, 1) := by decide +kernel
theorem dX11_parseProblem_16 : decode cX11_parseProblem 16 = .ok (.iload_n 2, 1) := by decide +kernel
theorem dX11_parseProblem_17 : decode cX11_parseProblem 17 = .ok (.bipush (-2), 2) := by decide +kernel
theorem dX11_parseProblem_19 : decode cX11_parseProblem 19 = .ok (.if_icmp .eq 13, 3) := by decide +kernel
theorem dX11_parseProblem_22 : decode cX11_parseProblem 22 = .ok (.aload_n 0, 1) := by decide +kernel
theorem dX11_parseProblem_23 : decode cX11_parseProblem 23 = .ok (.iload_n 1, 1) := by decide +kernel
theorem dX11_parseProblem_24 : decode cX11_parseProblem 24 = .ok (.invokevirtual 108, 3) := by decide +kernel
theorem dX11_parseProblem_27 : decode cX11_parseProblem 27 = .ok (.bipush 32, 2) := by decide +kernel
theorem dX11_parseProblem_29 : decode cX11_parseProblem 29 = .ok (.if_icmp .eq 11, 3) := by decide +kernel
theorem dX11_parseProblem_32 : decode cX11_parseProblem 32 = .ok (.bipush (-100), 2) := by decide +kernel
theorem dX11_parseProblem_34 : decode cX11_parseProblem 34 = .ok (.aload_n 0, 1) := by decide +kernel
theorem dX11_parseProblem_35 : decode cX11_parseProblem 35 = .ok (.getfield 92, 3) := by decide +kernel
theorem dX11_parseProblem_38 : decode cX11_parseProblem 38 = .ok (.isub, 1) := by decide +kernel
theorem dX11_parseProblem_39 : decode cX11_parseProblem 39 = .ok (.ireturn, 1) := by decide +kernel
theorem dX11_parseProblem_40 : decode cX11_parseProblem 40 = .ok (.aload_n 0, 1) := by decide +kernel
theorem dX11_parseProblem_41 : decode cX11_parseProblem 41 = .ok (.dup, 1) := by decide +kernel
theorem dX11_parseProblem_42 : decode cX11_parseProblem 42 = .ok (.getfield 92, 3) := by decide +kernel
theorem dX11_parseProblem_45 : decode cX11_parseProblem 45 = .ok (.iconst 1, 1) := by decide +kernel
theorem dX11_parseProblem_46 : decode cX11_parseProblem 46 = .ok (.iadd, 1) := by decide +kernel
theorem dX11_parseProblem_47 : decode cX11_parseProblem 47 = .ok (.putfield 92, 3) := by decide +kernel
theorem dX11_parseProblem_50 : decode cX11_parseProblem 50 = .ok (.aload_n 0, 1) := by decide +kernel
theorem dX11_parseProblem_51 : decode cX11_parseProblem 51 = .ok (.iload_n 1, 1) := by decide +kernel
theorem dX11_parseProblem_52 : decode cX11_parseProblem 52 = .ok (.invokevirtual 108, 3) := by decide +kernel
theorem dX11_parseProblem_55 : decode cX11_parseProblem 55 = .ok (.bipush 48, 2) := by decide +kernel
theorem dX11_parseProblem_57 : decode cX11_parseProblem 57 = .ok (.isub, 1) := by decide +kernel
theorem dX11_parseProblem_58 : decode cX11_parseProblem 58 = .ok (.istore_n 3, 1) := by decide +kernel
theorem dX11_parseProblem_59 : decode cX11_parseProblem 59 = .ok (.iload_n 3, 1) := by decide +kernel
theorem dX11_parseProblem_60 : decode cX11_parseProblem 60 = .ok (.iconst 2, 1) := by decide +kernel
theorem dX11_parseProblem_61 : decode cX11_parseProblem 61 = .ok (.iconst 4, 1) := by decide +kernel
theorem dX11_parseProblem_62 : decode cX11_parseProblem 62 = .ok (.invokestatic 85, 3) := by decide +kernel
theorem dX11_parseProblem_65 : decode cX11_parseProblem 65 = .ok (.ifCond .ne 11, 3) := by decide +kernel
theorem dX11_parseProblem_68 : decode cX11_parseProblem 68 = .ok (.bipush (-100), 2) := by decide +kernel
theorem dX11_parseProblem_70 : decode cX11_parseProblem 70 = .ok (.aload_n 0, 1) := by decide +kernel
theorem dX11_parseProblem_71 : decode cX11_parseProblem 71 = .ok (.getfield 92, 3) := by decide +kernel
theorem dX11_parseProblem_74 : decode cX11_parseProblem 74 = .ok (.isub, 1) := by decide +kernel
theorem dX11_parseProblem_75 : decode cX11_parseProblem 75 = .ok (.ireturn, 1) := by decide +kernel
theorem dX11_parseProblem_76 : decode cX11_parseProblem 76 = .ok (.aload_n 0, 1) := by decide +kernel
theorem dX11_parseProblem_77 : decode cX11_parseProblem 77 = .ok (.dup, 1) := by decide +kernel
theorem dX11_parseProblem_78 : decode cX11_parseProblem 78 = .ok (.getfield 92, 3) := by decide +kernel
theorem dX11_parseProblem_81 : decode cX11_parseProblem 81 = .ok (.iconst 1, 1) := by decide +kernel
theorem dX11_parseProblem_82 : decode cX11_parseProblem 82 = .ok (.iadd, 1) := by decide +kernel
theorem dX11_parseProblem_83 : decode cX11_parseProblem 83 = .ok (.putfield 92, 3) := by decide +kernel
theorem dX11_parseProblem_86 : decode cX11_parseProblem 86 = .ok (.aload_n 0, 1) := by decide +kernel
theorem dX11_parseProblem_87 : decode cX11_parseProblem 87 = .ok (.iload_n 1, 1) := by decide +kernel
theorem dX11_parseProblem_88 : decode cX11_parseProblem 88 = .ok (.invokevirtual 108, 3) := by decide +kernel
theorem dX11_parseProblem_91 : decode cX11_parseProblem 91 = .ok (.bipush 32, 2) := by decide +kernel
theorem dX11_parseProblem_93 : decode cX11_parseProblem 93 = .ok (.if_icmp .eq 11, 3) := by decide +kernel
theorem dX11_parseProblem_96 : decode cX11_parseProblem 96 = .ok (.bipush (-100), 2) := by decide +kernel
theorem dX11_parseProblem_98 : decode cX11_parseProblem 98 = .ok (.aload_n 0, 1) := by decide +kernel
theorem dX11_parseProblem_99 : decode cX11_parseProblem 99 = .ok (.getfield 92, 3) := by decide +kernel
theorem dX11_parseProblem_102 : decode cX11_parseProblem 102 = .ok (.isub, 1) := by decide +kernel
theorem dX11_parseProblem_103 : decode cX11_parseProblem 103 = .ok (.ireturn, 1) := by decide +kernel
theorem dX11_parseProblem_104 : decode cX11_parseProblem 104 = .ok (.aload_n 0, 1) := by decide +kernel
theorem dX11_parseProblem_105 : decode cX11_parseProblem 105 = .ok (.dup, 1) := by decide +kernel
theorem dX11_parseProblem_106 : decode cX11_parseProblem 106 = .ok (.getfield 92, 3) := by decide +kernel
theorem dX11_parseProblem_109 : decode cX11_parseProblem 109 = .ok (.iconst 1, 1) := by decide +kernel
theorem dX11_parseProblem_110 : decode cX11_parseProblem 110 = .ok (.iadd, 1) := by decide +kernel
theorem dX11_parseProblem_111 : decode cX11_parseProblem 111 = .ok (.putfield 92, 3) := by decide +kernel
theorem dX11_parseProblem_114 : decode cX11_parseProblem 114 = .ok (.aload_n 0, 1) := by decide +kernel
theorem dX11_parseProblem_115 : decode cX11_parseProblem 115 = .ok (.iload_n 1, 1) := by decide +kernel
theorem dX11_parseProblem_116 : decode cX11_parseProblem 116 = .ok (.invokevirtual 108, 3) := by decide +kernel
theorem dX11_parseProblem_119 : decode cX11_parseProblem 119 = .ok (.bipush 48, 2) := by decide +kernel
theorem dX11_parseProblem_121 : decode cX11_parseProblem 121 = .ok (.isub, 1) := by decide +kernel
theorem dX11_parseProblem_122 : decode cX11_parseProblem 122 = .ok (.istore 4, 2) := by decide +kernel
theorem dX11_parseProblem_124 : decode cX11_parseProblem 124 = .ok (.iload 4, 2) := by decide +kernel
theorem dX11_parseProblem_126 : decode cX11_parseProblem 126 = .ok (.iconst 2, 1) := by decide +kernel
theorem dX11_parseProblem_127 : decode cX11_parseProblem 127 = .ok (.iconst 4, 1) := by decide +kernel
theorem dX11_parseProblem_128 : decode cX11_parseProblem 128 = .ok (.invokestatic 85, 3) := by decide +kernel
theorem dX11_parseProblem_131 : decode cX11_parseProblem 131 = .ok (.ifCond .ne 11, 3) := by decide +kernel
theorem dX11_parseProblem_134 : decode cX11_parseProblem 134 = .ok (.bipush (-100), 2) := by decide +kernel
theorem dX11_parseProblem_136 : decode cX11_parseProblem 136 = .ok (.aload_n 0, 1) := by decide +kernel
theorem dX11_parseProblem_137 : decode cX11_parseProblem 137 = .ok (.getfield 92, 3) := by decide +kernel
theorem dX11_parseProblem_140 : decode cX11_parseProblem 140 = .ok (.isub, 1) := by decide +kernel
theorem dX11_parseProblem_141 : decode cX11_parseProblem 141 = .ok (.ireturn, 1) := by decide +kernel
theorem dX11_parseProblem_142 : decode cX11_parseProblem 142 = .ok (.aload_n 0, 1) := by decide +kernel
theorem dX11_parseProblem_143 : decode cX11_parseProblem 143 = .ok (.dup, 1) := by decide +kernel
theorem dX11_parseProblem_144 : decode cX11_parseProblem 144 = .ok (.getfield 92, 3) := by decide +kernel
theorem dX11_parseProblem_147 : decode cX11_parseProblem 147 = .ok (.iconst 1, 1) := by decide +kernel
theorem dX11_parseProblem_148 : decode cX11_parseProblem 148 = .ok (.iadd, 1) := by decide +kernel
theorem dX11_parseProblem_149 : decode cX11_parseProblem 149 = .ok (.putfield 92, 3) := by decide +kernel
theorem dX11_parseProblem_152 : decode cX11_parseProblem 152 = .ok (.aload_n 0, 1) := by decide +kernel
theorem dX11_parseProblem_153 : decode cX11_parseProblem 153 = .ok (.getfield 92, 3) := by decide +kernel
theorem dX11_parseProblem_156 : decode cX11_parseProblem 156 = .ok (.iload_n 1, 1) := by decide +kernel
theorem dX11_parseProblem_157 : decode cX11_parseProblem 157 = .ok (.if_icmp .ge 11, 3) := by decide +kernel
theorem dX11_parseProblem_160 : decode cX11_parseProblem 160 = .ok (.bipush (-100), 2) := by decide +kernel
theorem dX11_parseProblem_162 : decode cX11_parseProblem 162 = .ok (.aload_n 0, 1) := by decide +kernel
theorem dX11_parseProblem_163 : decode cX11_parseProblem 163 = .ok (.getfield 92, 3) := by decide +kernel
theorem dX11_parseProblem_166 : decode cX11_parseProblem 166 = .ok (.isub, 1) := by decide +kernel
theorem dX11_parseProblem_167 : decode cX11_parseProblem 167 = .ok (.ireturn, 1) := by decide +kernel
theorem dX11_parseProblem_168 : decode cX11_parseProblem 168 = .ok (.aload_n 0, 1) := by decide +kernel
theorem dX11_parseProblem_169 : decode cX11_parseProblem 169 = .ok (.iload_n 2, 1) := by decide +kernel
theorem dX11_parseProblem_170 : decode cX11_parseProblem 170 = .ok (.putfield 7, 3) := by decide +kernel
theorem dX11_parseProblem_173 : decode cX11_parseProblem 173 = .ok (.aload_n 0, 1) := by decide +kernel
theorem dX11_parseProblem_174 : decode cX11_parseProblem 174 = .ok (.iload_n 3, 1) := by decide +kernel
theorem dX11_parseProblem_175 : decode cX11_parseProblem 175 = .ok (.putfield 13, 3) := by decide +kernel
theorem dX11_parseProblem_178 : decode cX11_parseProblem 178 = .ok (.iload 4, 2) := by decide +kernel
theorem dX11_parseProblem_180 : decode cX11_parseProblem 180 = .ok (.aload_n 0, 1) := by decide +kernel
theorem dX11_parseProblem_181 : decode cX11_parseProblem 181 = .ok (.getfield 16, 3) := by decide +kernel
theorem dX11_parseProblem_184 : decode cX11_parseProblem 184 = .ok (.if_icmp .eq 51, 3) := by decide +kernel
theorem dX11_parseProblem_187 : decode cX11_parseProblem 187 = .ok (.aload_n 0, 1) := by decide +kernel
theorem dX11_parseProblem_188 : decode cX11_parseProblem 188 = .ok (.iload 4, 2) := by decide +kernel
theorem dX11_parseProblem_190 : decode cX11_parseProblem 190 = .ok (.putfield 16, 3) := by decide +kernel
theorem dX11_parseProblem_193 : decode cX11_parseProblem 193 = .ok (.iconst 0, 1) := by decide +kernel
theorem dX11_parseProblem_194 : decode cX11_parseProblem 194 = .ok (.istore 5, 2) := by decide +kernel
theorem dX11_parseProblem_196 : decode cX11_parseProblem 196 = .ok (.iload 5, 2) := by decide +kernel
theorem dX11_parseProblem_198 : decode cX11_parseProblem 198 = .ok (.iconst 4, 1) := by decide +kernel
theorem dX11_parseProblem_199 : decode cX11_parseProblem 199 = .ok (.if_icmp .ge 36, 3) := by decide +kernel
theorem dX11_parseProblem_202 : decode cX11_parseProblem 202 = .ok (.aload_n 0, 1) := by decide +kernel
theorem dX11_parseProblem_203 : decode cX11_parseProblem 203 = .ok (.getfield 26, 3) := by decide +kernel
theorem dX11_parseProblem_206 : decode cX11_parseProblem 206 = .ok (.iload 5, 2) := by decide +kernel
theorem dX11_parseProblem_208 : decode cX11_parseProblem 208 = .ok (.iconst 3, 1) := by decide +kernel
theorem dX11_parseProblem_209 : decode cX11_parseProblem 209 = .ok (.irem, 1) := by decide +kernel
theorem dX11_parseProblem_210 : decode cX11_parseProblem 210 = .ok (.iconst 0, 1) := by decide +kernel
theorem dX11_parseProblem_211 : decode cX11_parseProblem 211 = .ok (.iastore, 1) := by decide +kernel
theorem dX11_parseProblem_212 : decode cX11_parseProblem 212 = .ok (.aload_n 0, 1) := by decide +kernel
theorem dX11_parseProblem_213 : decode cX11_parseProblem 213 = .ok (.getfield 32, 3) := by decide +kernel
theorem dX11_parseProblem_216 : decode cX11_parseProblem 216 = .ok (.iload 5, 2) := by decide +kernel
theorem dX11_parseProblem_218 : decode cX11_parseProblem 218 = .ok (.iconst 0, 1) := by decide +kernel
theorem dX11_parseProblem_219 : decode cX11_parseProblem 219 = .ok (.iastore, 1) := by decide +kernel
theorem dX11_parseProblem_220 : decode cX11_parseProblem 220 = .ok (.aload_n 0, 1) := by decide +kernel
theorem dX11_parseProblem_221 : decode cX11_parseProblem 221 = .ok (.getfield 19, 3) := by decide +kernel
theorem dX11_parseProblem_224 : decode cX11_parseProblem 224 = .ok (.iload 5, 2) := by decide +kernel
theorem dX11_parseProblem_226 : decode cX11_parseProblem 226 = .ok (.iload 5, 2) := by decide +kernel
theorem dX11_parseProblem_228 : decode cX11_parseProblem 228 = .ok (.iastore, 1) := by decide +kernel
theorem dX11_parseProblem_229 : decode cX11_parseProblem 229 = .ok (.iinc 5 1, 3) := by decide +kernel
theorem dX11_parseProblem_232 : decode cX11_parseProblem 232 = .ok (.goto (-36), 3) := by decide +kernel
theorem dX11_parseProblem_235 : decode cX11_parseProblem 235 = .ok (.iload_n 3, 1) := by decide +kernel
theorem dX11_parseProblem_236 : decode cX11_parseProblem 236 = .ok (.ireturn, 1) := by decide +kernel
theorem dX11_problem_0 : decode cX11_problem 0 = .ok (.iload_n 1, 1) := by decide +kernel
theorem dX11_problem_1 : decode cX11_problem 1 = .ok (.ifCond .ne 10, 3) := by decide +kernel
theorem dX11_problem_4 : decode cX11_problem 4 = .ok (.aload_n 0, 1) := by decide +kernel
theorem dX11_problem_5 : decode cX11_problem 5 = .ok (.getfield 7, 3) := by decide +kernel
theorem dX11_problem_8 : decode cX11_problem 8 = .ok (.goto 28, 3) := by decide +kernel
theorem dX11_problem_11 : decode cX11_problem 11 = .ok (.iload_n 1, 1) := by decide +kernel
theorem dX11_problem_12 : decode cX11_problem 12 = .ok (.iconst 1, 1) := by decide +kernel
theorem dX11_problem_13 : decode cX11_problem 13 = .ok (.if_icmp .ne 10, 3) := by decide +kernel
theorem dX11_problem_16 : decode cX11_problem 16 = .ok (.aload_n 0, 1) := by decide +kernel
theorem dX11_problem_17 : decode cX11_problem 17 = .ok (.getfield 13, 3) := by decide +kernel
theorem dX11_problem_20 : decode cX11_problem 20 = .ok (.goto 16, 3) := by decide +kernel
theorem dX11_problem_23 : decode cX11_problem 23 = .ok (.iload_n 1, 1) := by decide +kernel
theorem dX11_problem_24 : decode cX11_problem 24 = .ok (.iconst 2, 1) := by decide +kernel
theorem dX11_problem_25 : decode cX11_problem 25 = .ok (.if_icmp .ne 10, 3) := by decide +kernel
theorem dX11_problem_28 : decode cX11_problem 28 = .ok (.aload_n 0, 1) := by decide +kernel
theorem dX11_problem_29 : decode cX11_problem 29 = .ok (.getfield 16, 3) := by decide +kernel
theorem dX11_problem_32 : decode cX11_problem 32 = .ok (.goto 4, 3) := by decide +kernel
theorem dX11_problem_35 : decode cX11_problem 35 = .ok (.iconst (-1), 1) := by decide +kernel
theorem dX11_problem_36 : decode cX11_problem 36 = .ok (.ireturn, 1) := by decide +kernel
set_option maxRecDepth 20000 in
theorem ggX11_isLetter_X11_isIn : GoodIn wsX11_isLetter wsX11_isIn := goodIn_r _ [5] rfl (by decide +kernel)
set_option maxRecDepth 20000 in
theorem gX11_isLetter_X11_isIn : GoodIn wsX11_isLetter (va_wsS RX11 85 yX11_isIn wsX11_isIn) := goodIn_app (goodIn_r _ [2, 3, 4] rfl (by decide +kernel)) ggX11_isLetter_X11_isIn
theorem dX11_isLetter_0 : decode cX11_isLetter 0 = .ok (.iload_n 1, 1) := by decide +kernel
theorem dX11_isLetter_1 : decode cX11_isLetter 1 = .ok (.iconst 0, 1) := by decide +kernel
theorem dX11_isLetter_2 : decode cX11_isLetter 2 = .ok (.aload_n 0, 1) := by decide +kernel
theorem dX11_isLetter_3 : decode cX11_isLetter 3 = .ok (.getfield 16, 3) := by decide +kernel
theorem dX11_isLetter_6 : decode cX11_isLetter 6 = .ok (.iconst 1, 1) := by decide +kernel
theorem dX11_isLetter_7 : decode cX11_isLetter 7 = .ok (.isub, 1) := by decide +kernel
theorem dX11_isLetter_8 : decode cX11_isLetter 8 = .ok (.invokestatic 85, 3) := by decide +kernel
theorem dX11_isLetter_11 : decode cX11_isLetter 11 = .ok (.ireturn, 1) := by decide +kernel
set_option maxRecDepth 20000 in
theorem ggX11_isWord_X11_isIn : GoodIn wsX11_isWord wsX11_isIn := goodIn_r _ [4] rfl (by decide +kernel)
set_option maxRecDepth 20000 in
theorem gX11_isWord_X11_isIn : GoodIn wsX11_isWord (va_wsS RX11 85 yX11_isIn wsX11_isIn) := goodIn_app (goodIn_r _ [1, 2, 3] rfl (by decide +kernel)) ggX11_isWord_X11_isIn
theorem dX11_isWord_0 : decode cX11_isWord 0 = .ok (.iload_n 0, 1) := by decide +kernel
theorem dX11_isWord_1 : decode cX11_isWord 1 = .ok (.iconst 0, 1) := by decide +kernel
theorem dX11_isWord_2 : decode cX11_isWord 2 = .ok (.iconst 2, 1) := by decide +kernel
theorem dX11_isWord_3 : decode cX11_isWord 3 = .ok (.invokestatic 85, 3) := by decide +kernel
theorem dX11_isWord_6 : decode cX11_isWord 6 = .ok (.ireturn, 1) := by decide +kernel
set_option maxRecDepth 20000 in
theorem ggX11_setValue_X11_isLetter : GoodIn wsX11_setValue wsX11_isLetter := goodIn_r _ [6, 7, 8, 9, 5, 10, 11, 12, 13, 14, 15, 16, 17, 18, 19, 20, 21, 22, 23, 24, 25, 26, 27, 28, 29, 30, 31, 32, 33, 34, 35, 36, 37, 38, 39, 40, 41, 42, 43, 44, 45, 46] rfl (by decide +kernel)
set_option maxRecDepth 20000 in
theorem gX11_setValue_X11_isLetter : GoodIn wsX11_setValue (wsV RX11 111 RX11 yX11_isLetter wsX11_isLetter) := goodIn_app (goodIn_r _ [2, 3, 4, 5] rfl (by decide +kernel)) ggX11_setValue_X11_isLetter
set_option maxRecDepth 20000 in
theorem ggX11_setValue_X11_isIn : GoodIn wsX11_setValue wsX11_isIn := goodIn_r _ [10] rfl (by decide +kernel)
set_option maxRecDepth 20000 in
theorem gX11_setValue_X11_isIn : GoodIn wsX11_setValue (va_wsS RX11 85 yX11_isIn wsX11_isIn) := goodIn_app (goodIn_r _ [8, 9, 5] rfl (by decide +kernel)) ggX11_setValue_X11_isIn
theorem dX11_setValue_0 : decode cX11_setValue 0 = .ok (.aload_n 0, 1) := by decide +kernel
theorem dX11_setValue_1 : decode cX11_setValue 1 = .ok (.iload_n 1, 1) := by decide +kernel
theorem dX11_setValue_2 : decode cX11_setValue 2 = .ok (.invokevirtual 111, 3) := by decide +kernel
theorem dX11_setValue_5 : decode cX11_setValue 5 = .ok (.ifCond .eq 14, 3) := by decide +kernel
theorem dX11_setValue_8 : decode cX11_setValue 8 = .ok (.iload_n 2, 1) := by decide +kernel
theorem dX11_setValue_9 : decode cX11_setValue 9 = .ok (.bipush (-9), 2) := by decide +kernel
theorem dX11_setValue_11 : decode cX11_setValue 11 = .ok (.bipush 9, 2) := by decide +kernel
theorem dX11_setValue_13 : decode cX11_setValue 13 = .ok (.invokestatic 85, 3) := by decide +kernel
theorem dX11_setValue_16 : decode cX11_setValue 16 = .ok (.ifCond .ne 5, 3) := by decide +kernel
theorem dX11_setValue_19 : decode cX11_setValue 19 = .ok (.iconst (-1), 1) := by decide +kernel
theorem dX11_setValue_20 : decode cX11_setValue 20 = .ok (.ireturn, 1) := by decide +kernel
theorem dX11_setValue_21 : decode cX11_setValue 21 = .ok (.aload_n 0, 1) := by decide +kernel
theorem dX11_setValue_22 : decode cX11_setValue 22 = .ok (.getfield 19, 3) := by decide +kernel
theorem dX11_setValue_25 : decode cX11_setValue 25 = .ok (.iload_n 1, 1) := by decide +kernel
theorem dX11_setValue_26 : decode cX11_setValue 26 = .ok (.iaload, 1) := by decide +kernel
theorem dX11_setValue_27 : decode cX11_setValue 27 = .ok (.istore_n 3, 1) := by decide +kernel
theorem dX11_setValue_28 : decode cX11_setValue 28 = .ok (.aload_n 0, 1) := by decide +kernel
theorem dX11_setValue_29 : decode cX11_setValue 29 = .ok (.getfield 19, 3) := by decide +kernel
theorem dX11_setValue_32 : decode cX11_setValue 32 = .ok (.iload_n 1, 1) := by decide +kernel
theorem dX11_setValue_33 : decode cX11_setValue 33 = .ok (.iload_n 2, 1) := by decide +kernel
theorem dX11_setValue_34 : decode cX11_setValue 34 = .ok (.iastore, 1) := by decide +kernel
theorem dX11_setValue_35 : decode cX11_setValue 35 = .ok (.iload_n 3, 1) := by decide +kernel
theorem dX11_setValue_36 : decode cX11_setValue 36 = .ok (.bipush 10, 2) := by decide +kernel
theorem dX11_setValue_38 : decode cX11_setValue 38 = .ok (.iadd, 1) := by decide +kernel
theorem dX11_setValue_39 : decode cX11_setValue 39 = .ok (.ireturn, 1) := by decide +kernel
set_option maxRecDepth 20000 in
theorem ggX11_append_X11_isWord : GoodIn wsX11_append wsX11_isWord := goodIn_r _ [6, 7, 8, 5, 9] rfl (by decide +kernel)
set_option maxRecDepth 20000 in
theorem gX11_append_X11_isWord : GoodIn wsX11_append (va_wsS RX11 115 yX11_isWord wsX11_isWord) := goodIn_app (goodIn_r _ [3, 4, 5] rfl (by decide +kernel)) ggX11_append_X11_isWord
set_option maxRecDepth 20000 in
theorem ggX11_append_X11_isLetter : GoodIn wsX11_append wsX11_isLetter := goodIn_r _ [13, 14, 7, 8, 5, 9, 15, 16, 17, 18, 19, 20, 21, 22, 23, 24, 25, 26, 27, 28, 29, 30, 31, 32, 33, 34, 35, 36, 37, 38, 39, 40, 41, 42, 43, 44, 45, 46, 47, 48, 49, 50] rfl (by decide +kernel)
set_option maxRecDepth 20000 in
theorem gX11_append_X11_isLetter : GoodIn wsX11_append (wsV RX11 111 RX11 yX11_isLetter wsX11_isLetter) := goodIn_app (goodIn_r _ [10, 11, 12, 5] rfl (by decide +kernel)) ggX11_append_X11_isLetter
theorem dX11_append_0 : decode cX11_append 0 = .ok (.iload_n 1, 1) := by decide +kernel
theorem dX11_append_1 : decode cX11_append 1 = .ok (.invokestatic 115, 3) := by decide +kernel
theorem dX11_append_4 : decode cX11_append 4 = .ok (.ifCond .eq 11, 3) := by decide +kernel
theorem dX11_append_7 : decode cX11_append 7 = .ok (.aload_n 0, 1) := by decide +kernel
theorem dX11_append_8 : decode cX11_append 8 = .ok (.iload_n 2, 1) := by decide +kernel
theorem dX11_append_9 : decode cX11_append 9 = .ok (.invokevirtual 111, 3) := by decide +kernel
theorem dX11_append_12 : decode cX11_append 12 = .ok (.ifCond .ne 5, 3) := by decide +kernel
theorem dX11_append_15 : decode cX11_append 15 = .ok (.iconst (-1), 1) := by decide +kernel
theorem dX11_append_16 : decode cX11_append 16 = .ok (.ireturn, 1) := by decide +kernel
theorem dX11_append_17 : decode cX11_append 17 = .ok (.aload_n 0, 1) := by decide +kernel
theorem dX11_append_18 : decode cX11_append 18 = .ok (.getfield 26, 3) := by decide +kernel
theorem dX11_append_21 : decode cX11_append 21 = .ok (.iload_n 1, 1) := by decide +kernel
theorem dX11_append_22 : decode cX11_append 22 = .ok (.iaload, 1) := by decide +kernel
theorem dX11_append_23 : decode cX11_append 23 = .ok (.bipush 40, 2) := by decide +kernel
theorem dX11_append_25 : decode cX11_append 25 = .ok (.if_icmp .ne 6, 3) := by decide +kernel
theorem dX11_append_28 : decode cX11_append 28 = .ok (.bipush (-3), 2) := by decide +kernel
theorem dX11_append_30 : decode cX11_append 30 = .ok (.ireturn, 1) := by decide +kernel
theorem dX11_append_31 : decode cX11_append 31 = .ok (.aload_n 0, 1) := by decide +kernel
theorem dX11_append_32 : decode cX11_append 32 = .ok (.getfield 23, 3) := by decide +kernel
theorem dX11_append_35 : decode cX11_append 35 = .ok (.bipush 40, 2) := by decide +kernel
theorem dX11_append_37 : decode cX11_append 37 = .ok (.iload_n 1, 1) := by decide +kernel
theorem dX11_append_38 : decode cX11_append 38 = .ok (.imul, 1) := by decide +kernel
theorem dX11_append_39 : decode cX11_append 39 = .ok (.aload_n 0, 1) := by decide +kernel
theorem dX11_append_40 : decode cX11_append 40 = .ok (.getfield 26, 3) := by decide +kernel
theorem dX11_append_43 : decode cX11_append 43 = .ok (.iload_n 1, 1) := by decide +kernel
theorem dX11_append_44 : decode cX11_append 44 = .ok (.iaload, 1) := by decide +kernel
theorem dX11_append_45 : decode cX11_append 45 = .ok (.iadd, 1) := by decide +kernel
theorem dX11_append_46 : decode cX11_append 46 = .ok (.iload_n 2, 1) := by decide +kernel
theorem dX11_append_47 : decode cX11_append 47 = .ok (.iastore, 1) := by decide +kernel
theorem dX11_append_48 : decode cX11_append 48 = .ok (.aload_n 0, 1) := by decide +kernel
theorem dX11_append_49 : decode cX11_append 49 = .ok (.getfield 26, 3) := by decide +kernel
theorem dX11_append_52 : decode cX11_append 52 = .ok (.iload_n 1, 1) := by decide +kernel
theorem dX11_append_53 : decode cX11_append 53 = .ok (.dup2, 1) := by decide +kernel
theorem dX11_append_54 : decode cX11_append 54 = .ok (.iaload, 1) := by decide +kernel
theorem dX11_append_55 : decode cX11_append 55 = .ok (.iconst 1, 1) := by decide +kernel
theorem dX11_append_56 : decode cX11_append 56 = .ok (.iadd, 1) := by decide +kernel
theorem dX11_append_57 : decode cX11_append 57 = .ok (.iastore, 1) := by decide +kernel
theorem dX11_append_58 : decode cX11_append 58 = .ok (.aload_n 0, 1) := by decide +kernel
theorem dX11_append_59 : decode cX11_append 59 = .ok (.getfield 26, 3) := by decide +kernel
theorem dX11_append_62 : decode cX11_append 62 = .ok (.iload_n 1, 1) := by decide +kernel
theorem dX11_append_63 : decode cX11_append 63 = .ok (.iaload, 1) := by decide +kernel
theorem dX11_append_64 : decode cX11_append 64 = .ok (.ireturn, 1) := by decide +kernel
set_option maxRecDepth 20000 in
theorem ggX11_clearWord_X11_isWord : GoodIn wsX11_clearWord wsX11_isWord := goodIn_r _ [5, 6, 7, 4, 8] rfl (by decide +kernel)
set_option maxRecDepth 20000 in
theorem gX11_clearWord_X11_isWord : GoodIn wsX11_clearWord (va_wsS RX11 115 yX11_isWord wsX11_isWord) := goodIn_app (goodIn_r _ [2, 3, 4] rfl (by decide +kernel)) ggX11_clearWord_X11_isWord
theorem dX11_clearWord_0 : decode cX11_clearWord 0 = .ok (.iload_n 1, 1) := by decide +kernel
theorem dX11_clearWord_1 : decode cX11_clearWord 1 = .ok (.invokestatic 115, 3) := by decide +kernel
theorem dX11_clearWord_4 : decode cX11_clearWord 4 = .ok (.ifCond .ne 5, 3) := by decide +kernel
theorem dX11_clearWord_7 : decode cX11_clearWord 7 = .ok (.iconst (-1), 1) := by decide +kernel
theorem dX11_clearWord_8 : decode cX11_clearWord 8 = .ok (.ireturn, 1) := by decide +kernel
theorem dX11_clearWord_9 : decode cX11_clearWord 9 = .ok (.aload_n 0, 1) := by decide +kernel
theorem dX11_clearWord_10 : decode cX11_clearWord 10 = .ok (.getfield 26, 3) := by decide +kernel
theorem dX11_clearWord_13 : decode cX11_clearWord 13 = .ok (.iload_n 1, 1) := by decide +kernel
theorem dX11_clearWord_14 : decode cX11_clearWord 14 = .ok (.iaload, 1) := by decide +kernel
theorem dX11_clearWord_15 : decode cX11_clearWord 15 = .ok (.istore_n 2, 1) := by decide +kernel
theorem dX11_clearWord_16 : decode cX11_clearWord 16 = .ok (.aload_n 0, 1) := by decide +kernel
theorem dX11_clearWord_17 : decode cX11_clearWord 17 = .ok (.getfield 26, 3) := by decide +kernel
theorem dX11_clearWord_20 : decode cX11_clearWord 20 = .ok (.iload_n 1, 1) := by decide +kernel
