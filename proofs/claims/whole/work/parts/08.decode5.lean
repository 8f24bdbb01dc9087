theorem dX11_enter_1 : decode cX11_enter 1 = .ok (.istore_n 1, 1) := by decide +kernel
theorem dX11_enter_2 : decode cX11_enter 2 = .ok (.iload_n 1, 1) := by decide +kernel
theorem dX11_enter_3 : decode cX11_enter 3 = .ok (.aload_n 0, 1) := by decide +kernel
theorem dX11_enter_4 : decode cX11_enter 4 = .ok (.getfield 198, 3) := by decide +kernel
theorem dX11_enter_7 : decode cX11_enter 7 = .ok (.if_icmp .ge 17, 3) := by decide +kernel
theorem dX11_enter_10 : decode cX11_enter 10 = .ok (.aload_n 0, 1) := by decide +kernel
theorem dX11_enter_11 : decode cX11_enter 11 = .ok (.iload_n 1, 1) := by decide +kernel
theorem dX11_enter_12 : decode cX11_enter 12 = .ok (.invokevirtual 201, 3) := by decide +kernel
theorem dX11_enter_15 : decode cX11_enter 15 = .ok (.ifCond .ge 9, 3) := by decide +kernel
theorem dX11_enter_18 : decode cX11_enter 18 = .ok (.iinc 1 1, 3) := by decide +kernel
theorem dX11_enter_21 : decode cX11_enter 21 = .ok (.goto (-19), 3) := by decide +kernel
theorem dX11_enter_24 : decode cX11_enter 24 = .ok (.iload_n 1, 1) := by decide +kernel
theorem dX11_enter_25 : decode cX11_enter 25 = .ok (.aload_n 0, 1) := by decide +kernel
theorem dX11_enter_26 : decode cX11_enter 26 = .ok (.getfield 198, 3) := by decide +kernel
theorem dX11_enter_29 : decode cX11_enter 29 = .ok (.if_icmp .ge 14, 3) := by decide +kernel
theorem dX11_enter_32 : decode cX11_enter 32 = .ok (.aload_n 0, 1) := by decide +kernel
theorem dX11_enter_33 : decode cX11_enter 33 = .ok (.iload_n 1, 1) := by decide +kernel
theorem dX11_enter_34 : decode cX11_enter 34 = .ok (.invokevirtual 201, 3) := by decide +kernel
theorem dX11_enter_37 : decode cX11_enter 37 = .ok (.ifCond .ne 6, 3) := by decide +kernel
theorem dX11_enter_40 : decode cX11_enter 40 = .ok (.bipush (-2), 2) := by decide +kernel
theorem dX11_enter_42 : decode cX11_enter 42 = .ok (.ireturn, 1) := by decide +kernel
theorem dX11_enter_43 : decode cX11_enter 43 = .ok (.bipush 7, 2) := by decide +kernel
theorem dX11_enter_45 : decode cX11_enter 45 = .ok (.aload_n 0, 1) := by decide +kernel
theorem dX11_enter_46 : decode cX11_enter 46 = .ok (.getfield 198, 3) := by decide +kernel
theorem dX11_enter_49 : decode cX11_enter 49 = .ok (.imul, 1) := by decide +kernel
theorem dX11_enter_50 : decode cX11_enter 50 = .ok (.iconst 1, 1) := by decide +kernel
theorem dX11_enter_51 : decode cX11_enter 51 = .ok (.isub, 1) := by decide +kernel
theorem dX11_enter_52 : decode cX11_enter 52 = .ok (.istore_n 2, 1) := by decide +kernel
theorem dX11_enter_53 : decode cX11_enter 53 = .ok (.iload_n 2, 1) := by decide +kernel
theorem dX11_enter_54 : decode cX11_enter 54 = .ok (.bipush 7, 2) := by decide +kernel
theorem dX11_enter_56 : decode cX11_enter 56 = .ok (.iload_n 1, 1) := by decide +kernel
theorem dX11_enter_57 : decode cX11_enter 57 = .ok (.imul, 1) := by decide +kernel
theorem dX11_enter_58 : decode cX11_enter 58 = .ok (.if_icmp .lt 24, 3) := by decide +kernel
theorem dX11_enter_61 : decode cX11_enter 61 = .ok (.aload_n 0, 1) := by decide +kernel
theorem dX11_enter_62 : decode cX11_enter 62 = .ok (.getfield 41, 3) := by decide +kernel
theorem dX11_enter_65 : decode cX11_enter 65 = .ok (.iload_n 2, 1) := by decide +kernel
theorem dX11_enter_66 : decode cX11_enter 66 = .ok (.bipush 7, 2) := by decide +kernel
theorem dX11_enter_68 : decode cX11_enter 68 = .ok (.iadd, 1) := by decide +kernel
theorem dX11_enter_69 : decode cX11_enter 69 = .ok (.aload_n 0, 1) := by decide +kernel
theorem dX11_enter_70 : decode cX11_enter 70 = .ok (.getfield 41, 3) := by decide +kernel
theorem dX11_enter_73 : decode cX11_enter 73 = .ok (.iload_n 2, 1) := by decide +kernel
theorem dX11_enter_74 : decode cX11_enter 74 = .ok (.iaload, 1) := by decide +kernel
theorem dX11_enter_75 : decode cX11_enter 75 = .ok (.iastore, 1) := by decide +kernel
theorem dX11_enter_76 : decode cX11_enter 76 = .ok (.iinc 2 (-1), 3) := by decide +kernel
theorem dX11_enter_79 : decode cX11_enter 79 = .ok (.goto (-26), 3) := by decide +kernel
theorem dX11_enter_82 : decode cX11_enter 82 = .ok (.iconst 0, 1) := by decide +kernel
theorem dX11_enter_83 : decode cX11_enter 83 = .ok (.istore_n 2, 1) := by decide +kernel
theorem dX11_enter_84 : decode cX11_enter 84 = .ok (.iload_n 2, 1) := by decide +kernel
theorem dX11_enter_85 : decode cX11_enter 85 = .ok (.bipush 7, 2) := by decide +kernel
theorem dX11_enter_87 : decode cX11_enter 87 = .ok (.if_icmp .ge 26, 3) := by decide +kernel
theorem dX11_enter_90 : decode cX11_enter 90 = .ok (.aload_n 0, 1) := by decide +kernel
theorem dX11_enter_91 : decode cX11_enter 91 = .ok (.getfield 41, 3) := by decide +kernel
theorem dX11_enter_94 : decode cX11_enter 94 = .ok (.bipush 7, 2) := by decide +kernel
theorem dX11_enter_96 : decode cX11_enter 96 = .ok (.iload_n 1, 1) := by decide +kernel
theorem dX11_enter_97 : decode cX11_enter 97 = .ok (.imul, 1) := by decide +kernel
theorem dX11_enter_98 : decode cX11_enter 98 = .ok (.iload_n 2, 1) := by decide +kernel
theorem dX11_enter_99 : decode cX11_enter 99 = .ok (.iadd, 1) := by decide +kernel
theorem dX11_enter_100 : decode cX11_enter 100 = .ok (.aload_n 0, 1) := by decide +kernel
theorem dX11_enter_101 : decode cX11_enter 101 = .ok (.getfield 47, 3) := by decide +kernel
theorem dX11_enter_104 : decode cX11_enter 104 = .ok (.iload_n 2, 1) := by decide +kernel
theorem dX11_enter_105 : decode cX11_enter 105 = .ok (.iaload, 1) := by decide +kernel
theorem dX11_enter_106 : decode cX11_enter 106 = .ok (.iastore, 1) := by decide +kernel
theorem dX11_enter_107 : decode cX11_enter 107 = .ok (.iinc 2 1, 3) := by decide +kernel
theorem dX11_enter_110 : decode cX11_enter 110 = .ok (.goto (-26), 3) := by decide +kernel
theorem dX11_enter_113 : decode cX11_enter 113 = .ok (.aload_n 0, 1) := by decide +kernel
theorem dX11_enter_114 : decode cX11_enter 114 = .ok (.dup, 1) := by decide +kernel
theorem dX11_enter_115 : decode cX11_enter 115 = .ok (.getfield 198, 3) := by decide +kernel
theorem dX11_enter_118 : decode cX11_enter 118 = .ok (.iconst 1, 1) := by decide +kernel
theorem dX11_enter_119 : decode cX11_enter 119 = .ok (.iadd, 1) := by decide +kernel
theorem dX11_enter_120 : decode cX11_enter 120 = .ok (.putfield 198, 3) := by decide +kernel
theorem dX11_enter_123 : decode cX11_enter 123 = .ok (.iload_n 1, 1) := by decide +kernel
theorem dX11_enter_124 : decode cX11_enter 124 = .ok (.ireturn, 1) := by decide +kernel
theorem dX11_endSize_0 : decode cX11_endSize 0 = .ok (.iload_n 1, 1) := by decide +kernel
theorem dX11_endSize_1 : decode cX11_endSize 1 = .ok (.ifCond .ge 7, 3) := by decide +kernel
theorem dX11_endSize_4 : decode cX11_endSize 4 = .ok (.iconst 0, 1) := by decide +kernel
theorem dX11_endSize_5 : decode cX11_endSize 5 = .ok (.goto 9, 3) := by decide +kernel
theorem dX11_endSize_8 : decode cX11_endSize 8 = .ok (.aload_n 0, 1) := by decide +kernel
theorem dX11_endSize_9 : decode cX11_endSize 9 = .ok (.getfield 32, 3) := by decide +kernel
theorem dX11_endSize_12 : decode cX11_endSize 12 = .ok (.iload_n 1, 1) := by decide +kernel
theorem dX11_endSize_13 : decode cX11_endSize 13 = .ok (.iaload, 1) := by decide +kernel
theorem dX11_endSize_14 : decode cX11_endSize 14 = .ok (.ireturn, 1) := by decide +kernel
set_option maxRecDepth 20000 in
theorem ggX11_isCut_X11_endSize : GoodIn wsX11_isCut wsX11_endSize := goodIn_r _ [6, 7, 8, 9, 10, 11, 12, 13, 14, 15, 16, 17, 18, 19, 20, 21, 22, 23, 24, 25, 26, 27, 28, 29, 30, 31, 32, 33, 34, 35, 36, 37, 38, 39, 40, 41, 42, 43] rfl (by decide +kernel)
set_option maxRecDepth 20000 in
theorem gX11_isCut_X11_endSize : GoodIn wsX11_isCut (wsV RX11 204 RX11 yX11_endSize wsX11_endSize) := goodIn_app (goodIn_r _ [2, 3, 4, 5] rfl (by decide +kernel)) ggX11_isCut_X11_endSize
theorem dX11_isCut_0 : decode cX11_isCut 0 = .ok (.aload_n 0, 1) := by decide +kernel
theorem dX11_isCut_1 : decode cX11_isCut 1 = .ok (.iload_n 1, 1) := by decide +kernel
theorem dX11_isCut_2 : decode cX11_isCut 2 = .ok (.invokevirtual 204, 3) := by decide +kernel
theorem dX11_isCut_5 : decode cX11_isCut 5 = .ok (.istore 4, 2) := by decide +kernel
theorem dX11_isCut_7 : decode cX11_isCut 7 = .ok (.iload_n 2, 1) := by decide +kernel
theorem dX11_isCut_8 : decode cX11_isCut 8 = .ok (.ifCond .ge 17, 3) := by decide +kernel
theorem dX11_isCut_11 : decode cX11_isCut 11 = .ok (.iload_n 3, 1) := by decide +kernel
theorem dX11_isCut_12 : decode cX11_isCut 12 = .ok (.iload 4, 2) := by decide +kernel
theorem dX11_isCut_14 : decode cX11_isCut 14 = .ok (.if_icmp .gt 7, 3) := by decide +kernel
theorem dX11_isCut_17 : decode cX11_isCut 17 = .ok (.iconst 1, 1) := by decide +kernel
theorem dX11_isCut_18 : decode cX11_isCut 18 = .ok (.goto 32, 3) := by decide +kernel
theorem dX11_isCut_21 : decode cX11_isCut 21 = .ok (.iconst 0, 1) := by decide +kernel
theorem dX11_isCut_22 : decode cX11_isCut 22 = .ok (.goto 28, 3) := by decide +kernel
theorem dX11_isCut_25 : decode cX11_isCut 25 = .ok (.iload_n 3, 1) := by decide +kernel
theorem dX11_isCut_26 : decode cX11_isCut 26 = .ok (.iload 4, 2) := by decide +kernel
theorem dX11_isCut_28 : decode cX11_isCut 28 = .ok (.if_icmp .ge 21, 3) := by decide +kernel
theorem dX11_isCut_31 : decode cX11_isCut 31 = .ok (.aload_n 0, 1) := by decide +kernel
theorem dX11_isCut_32 : decode cX11_isCut 32 = .ok (.getfield 29, 3) := by decide +kernel
theorem dX11_isCut_35 : decode cX11_isCut 35 = .ok (.iconst 4, 1) := by decide +kernel
theorem dX11_isCut_36 : decode cX11_isCut 36 = .ok (.iload_n 1, 1) := by decide +kernel
theorem dX11_isCut_37 : decode cX11_isCut 37 = .ok (.imul, 1) := by decide +kernel
theorem dX11_isCut_38 : decode cX11_isCut 38 = .ok (.iload_n 3, 1) := by decide +kernel
theorem dX11_isCut_39 : decode cX11_isCut 39 = .ok (.iadd, 1) := by decide +kernel
theorem dX11_isCut_40 : decode cX11_isCut 40 = .ok (.iaload, 1) := by decide +kernel
theorem dX11_isCut_41 : decode cX11_isCut 41 = .ok (.iload_n 2, 1) := by decide +kernel
theorem dX11_isCut_42 : decode cX11_isCut 42 = .ok (.if_icmp .ne 7, 3) := by decide +kernel
theorem dX11_isCut_45 : decode cX11_isCut 45 = .ok (.iconst 1, 1) := by decide +kernel
theorem dX11_isCut_46 : decode cX11_isCut 46 = .ok (.goto 4, 3) := by decide +kernel
theorem dX11_isCut_49 : decode cX11_isCut 49 = .ok (.iconst 0, 1) := by decide +kernel
theorem dX11_isCut_50 : decode cX11_isCut 50 = .ok (.ireturn, 1) := by decide +kernel
theorem dX11_inPart_0 : decode cX11_inPart 0 = .ok (.iconst 0, 1) := by decide +kernel
theorem dX11_inPart_1 : decode cX11_inPart 1 = .ok (.istore 5, 2) := by decide +kernel
theorem dX11_inPart_3 : decode cX11_inPart 3 = .ok (.iload_n 2, 1) := by decide +kernel
theorem dX11_inPart_4 : decode cX11_inPart 4 = .ok (.istore 6, 2) := by decide +kernel
theorem dX11_inPart_6 : decode cX11_inPart 6 = .ok (.iload 6, 2) := by decide +kernel
theorem dX11_inPart_8 : decode cX11_inPart 8 = .ok (.iload_n 3, 1) := by decide +kernel
theorem dX11_inPart_9 : decode cX11_inPart 9 = .ok (.if_icmp .ge 35, 3) := by decide +kernel
theorem dX11_inPart_12 : decode cX11_inPart 12 = .ok (.iload 5, 2) := by decide +kernel
theorem dX11_inPart_14 : decode cX11_inPart 14 = .ok (.aload_n 0, 1) := by decide +kernel
theorem dX11_inPart_15 : decode cX11_inPart 15 = .ok (.getfield 29, 3) := by decide +kernel
theorem dX11_inPart_18 : decode cX11_inPart 18 = .ok (.iconst 4, 1) := by decide +kernel
theorem dX11_inPart_19 : decode cX11_inPart 19 = .ok (.iload_n 1, 1) := by decide +kernel
theorem dX11_inPart_20 : decode cX11_inPart 20 = .ok (.imul, 1) := by decide +kernel
theorem dX11_inPart_21 : decode cX11_inPart 21 = .ok (.iload 6, 2) := by decide +kernel
theorem dX11_inPart_23 : decode cX11_inPart 23 = .ok (.iadd, 1) := by decide +kernel
theorem dX11_inPart_24 : decode cX11_inPart 24 = .ok (.iaload, 1) := by decide +kernel
theorem dX11_inPart_25 : decode cX11_inPart 25 = .ok (.iload 4, 2) := by decide +kernel
theorem dX11_inPart_27 : decode cX11_inPart 27 = .ok (.if_icmp .ne 7, 3) := by decide +kernel
theorem dX11_inPart_30 : decode cX11_inPart 30 = .ok (.iconst 1, 1) := by decide +kernel
theorem dX11_inPart_31 : decode cX11_inPart 31 = .ok (.goto 4, 3) := by decide +kernel
theorem dX11_inPart_34 : decode cX11_inPart 34 = .ok (.iconst 0, 1) := by decide +kernel
theorem dX11_inPart_35 : decode cX11_inPart 35 = .ok (.iadd, 1) := by decide +kernel
theorem dX11_inPart_36 : decode cX11_inPart 36 = .ok (.istore 5, 2) := by decide +kernel
theorem dX11_inPart_38 : decode cX11_inPart 38 = .ok (.iinc 6 1, 3) := by decide +kernel
theorem dX11_inPart_41 : decode cX11_inPart 41 = .ok (.goto (-35), 3) := by decide +kernel
theorem dX11_inPart_44 : decode cX11_inPart 44 = .ok (.iload 5, 2) := by decide +kernel
theorem dX11_inPart_46 : decode cX11_inPart 46 = .ok (.ireturn, 1) := by decide +kernel
set_option maxRecDepth 20000 in
theorem ggX11_before_X11_inPart : GoodIn wsX11_before wsX11_inPart := goodIn_r _ [7, 8, 9, 10, 11, 12, 13, 14, 15, 16, 17, 18, 19, 20, 21, 22, 23, 24, 25, 26, 27, 28, 29, 30, 31, 32, 33, 34, 35, 36, 37, 38, 39, 40, 41, 42, 43, 44] rfl (by decide +kernel)
set_option maxRecDepth 20000 in
theorem gX11_before_X11_inPart : GoodIn wsX11_before (wsV RX11 207 RX11 yX11_inPart wsX11_inPart) := goodIn_app (goodIn_r _ [3, 4, 5, 6] rfl (by decide +kernel)) ggX11_before_X11_inPart
theorem dX11_before_0 : decode cX11_before 0 = .ok (.aload_n 0, 1) := by decide +kernel
theorem dX11_before_1 : decode cX11_before 1 = .ok (.aload_n 0, 1) := by decide +kernel
theorem dX11_before_2 : decode cX11_before 2 = .ok (.getfield 47, 3) := by decide +kernel
theorem dX11_before_5 : decode cX11_before 5 = .ok (.iload_n 1, 1) := by decide +kernel
theorem dX11_before_6 : decode cX11_before 6 = .ok (.iaload, 1) := by decide +kernel
theorem dX11_before_7 : decode cX11_before 7 = .ok (.iconst 0, 1) := by decide +kernel
theorem dX11_before_8 : decode cX11_before 8 = .ok (.aload_n 0, 1) := by decide +kernel
theorem dX11_before_9 : decode cX11_before 9 = .ok (.getfield 50, 3) := by decide +kernel
theorem dX11_before_12 : decode cX11_before 12 = .ok (.iload_n 1, 1) := by decide +kernel
theorem dX11_before_13 : decode cX11_before 13 = .ok (.iaload, 1) := by decide +kernel
theorem dX11_before_14 : decode cX11_before 14 = .ok (.iload_n 2, 1) := by decide +kernel
theorem dX11_before_15 : decode cX11_before 15 = .ok (.invokevirtual 207, 3) := by decide +kernel
theorem dX11_before_18 : decode cX11_before 18 = .ok (.ireturn, 1) := by decide +kernel
set_option maxRecDepth 20000 in
theorem ggX11_behind_X11_endSize : GoodIn wsX11_behind wsX11_endSize := goodIn_r _ [7, 8, 14, 15, 16, 17, 18, 19, 20, 21, 22, 23, 24, 25, 26, 27, 28, 29, 30, 31, 32, 33, 34, 35, 36, 37, 38, 39, 40, 41, 42, 43, 44, 45, 46, 47, 48, 49] rfl (by decide +kernel)
set_option maxRecDepth 20000 in
theorem gX11_behind_X11_endSize : GoodIn wsX11_behind (wsV RX11 204 RX11 yX11_endSize wsX11_endSize) := goodIn_app (goodIn_r _ [3, 4, 5, 6] rfl (by decide +kernel)) ggX11_behind_X11_endSize
set_option maxRecDepth 20000 in
theorem ggX11_behind_X11_inPart : GoodIn wsX11_behind wsX11_inPart := goodIn_r _ [12, 13, 14, 15, 16, 17, 18, 19, 20, 21, 22, 23, 24, 25, 26, 27, 28, 29, 30, 31, 32, 33, 34, 35, 36, 37, 38, 39, 40, 41, 42, 43, 44, 45, 46, 47, 48, 49] rfl (by decide +kernel)
set_option maxRecDepth 20000 in
theorem gX11_behind_X11_inPart : GoodIn wsX11_behind (wsV RX11 207 RX11 yX11_inPart wsX11_inPart) := goodIn_app (goodIn_r _ [9, 10, 11, 6] rfl (by decide +kernel)) ggX11_behind_X11_inPart
theorem dX11_behind_0 : decode cX11_behind 0 = .ok (.aload_n 0, 1) := by decide +kernel
theorem dX11_behind_1 : decode cX11_behind 1 = .ok (.aload_n 0, 1) := by decide +kernel
theorem dX11_behind_2 : decode cX11_behind 2 = .ok (.getfield 47, 3) := by decide +kernel
theorem dX11_behind_5 : decode cX11_behind 5 = .ok (.iload_n 1, 1) := by decide +kernel
theorem dX11_behind_6 : decode cX11_behind 6 = .ok (.iaload, 1) := by decide +kernel
theorem dX11_behind_7 : decode cX11_behind 7 = .ok (.aload_n 0, 1) := by decide +kernel
theorem dX11_behind_8 : decode cX11_behind 8 = .ok (.getfield 50, 3) := by decide +kernel
theorem dX11_behind_11 : decode cX11_behind 11 = .ok (.iload_n 1, 1) := by decide +kernel
theorem dX11_behind_12 : decode cX11_behind 12 = .ok (.iaload, 1) := by decide +kernel
theorem dX11_behind_13 : decode cX11_behind 13 = .ok (.iload_n 2, 1) := by decide +kernel
theorem dX11_behind_14 : decode cX11_behind 14 = .ok (.ifCond .ge 7, 3) := by decide +kernel
theorem dX11_behind_17 : decode cX11_behind 17 = .ok (.iconst 0, 1) := by decide +kernel
theorem dX11_behind_18 : decode cX11_behind 18 = .ok (.goto 4, 3) := by decide +kernel
theorem dX11_behind_21 : decode cX11_behind 21 = .ok (.iconst 1, 1) := by decide +kernel
theorem dX11_behind_22 : decode cX11_behind 22 = .ok (.iadd, 1) := by decide +kernel
theorem dX11_behind_23 : decode cX11_behind 23 = .ok (.aload_n 0, 1) := by decide +kernel
theorem dX11_behind_24 : decode cX11_behind 24 = .ok (.aload_n 0, 1) := by decide +kernel
theorem dX11_behind_25 : decode cX11_behind 25 = .ok (.getfield 47, 3) := by decide +kernel
theorem dX11_behind_28 : decode cX11_behind 28 = .ok (.iload_n 1, 1) := by decide +kernel
theorem dX11_behind_29 : decode cX11_behind 29 = .ok (.iaload, 1) := by decide +kernel
theorem dX11_behind_30 : decode cX11_behind 30 = .ok (.invokevirtual 204, 3) := by decide +kernel
theorem dX11_behind_33 : decode cX11_behind 33 = .ok (.iload_n 3, 1) := by decide +kernel
theorem dX11_behind_34 : decode cX11_behind 34 = .ok (.invokevirtual 207, 3) := by decide +kernel
theorem dX11_behind_37 : decode cX11_behind 37 = .ok (.ireturn, 1) := by decide +kernel
set_option maxRecDepth 20000 in
theorem ggX11_solves_X11_replaced : GoodIn wsX11_solves wsX11_replaced := goodIn_r _ [12, 1, 13, 14, 15, 16, 11, 17, 18, 19, 8, 9, 10, 20, 21, 22, 23, 24, 25, 26, 27, 28, 29, 30, 31, 32, 33, 34, 35, 36, 37, 38, 39, 40, 41, 42, 43, 44, 45, 46, 47, 48, 49, 50, 51, 52, 53, 54, 55] rfl (by decide +kernel)
set_option maxRecDepth 20000 in
theorem gX11_solves_X11_replaced : GoodIn wsX11_solves (wsV RX11 210 RX11 yX11_replaced wsX11_replaced) := goodIn_app (goodIn_r _ [8, 9, 10, 11] rfl (by decide +kernel)) ggX11_solves_X11_replaced
theorem dX11_solves_0 : decode cX11_solves 0 = .ok (.iconst 0, 1) := by decide +kernel
theorem dX11_solves_1 : decode cX11_solves 1 = .ok (.istore_n 3, 1) := by decide +kernel
theorem dX11_solves_2 : decode cX11_solves 2 = .ok (.iload_n 3, 1) := by decide +kernel
theorem dX11_solves_3 : decode cX11_solves 3 = .ok (.aload_n 0, 1) := by decide +kernel
theorem dX11_solves_4 : decode cX11_solves 4 = .ok (.getfield 16, 3) := by decide +kernel
theorem dX11_solves_7 : decode cX11_solves 7 = .ok (.if_icmp .ge 56, 3) := by decide +kernel
theorem dX11_solves_10 : decode cX11_solves 10 = .ok (.aload_n 0, 1) := by decide +kernel
theorem dX11_solves_11 : decode cX11_solves 11 = .ok (.iload_n 3, 1) := by decide +kernel
theorem dX11_solves_12 : decode cX11_solves 12 = .ok (.iconst 0, 1) := by decide +kernel
theorem dX11_solves_13 : decode cX11_solves 13 = .ok (.iconst 0, 1) := by decide +kernel
theorem dX11_solves_14 : decode cX11_solves 14 = .ok (.invokevirtual 210, 3) := by decide +kernel
theorem dX11_solves_17 : decode cX11_solves 17 = .ok (.lstore 4, 2) := by decide +kernel
theorem dX11_solves_19 : decode cX11_solves 19 = .ok (.lload 4, 2) := by decide +kernel
theorem dX11_solves_21 : decode cX11_solves 21 = .ok (.lload_n 1, 1) := by decide +kernel
theorem dX11_solves_22 : decode cX11_solves 22 = .ok (.lrem, 1) := by decide +kernel
theorem dX11_solves_23 : decode cX11_solves 23 = .ok (.lconst 0, 1) := by decide +kernel
theorem dX11_solves_24 : decode cX11_solves 24 = .ok (.lcmp, 1) := by decide +kernel
theorem dX11_solves_25 : decode cX11_solves 25 = .ok (.ifCond .ne 17, 3) := by decide +kernel
theorem dX11_solves_28 : decode cX11_solves 28 = .ok (.lload 4, 2) := by decide +kernel
theorem dX11_solves_30 : decode cX11_solves 30 = .ok (.lload_n 1, 1) := by decide +kernel
theorem dX11_solves_31 : decode cX11_solves 31 = .ok (.ldiv, 1) := by decide +kernel
theorem dX11_solves_32 : decode cX11_solves 32 = .ok (.invokestatic 214, 3) := by decide +kernel
theorem dX11_solves_35 : decode cX11_solves 35 = .ok (.ldc2_w 218, 3) := by decide +kernel
theorem dX11_solves_38 : decode cX11_solves 38 = .ok (.lcmp, 1) := by decide +kernel
theorem dX11_solves_39 : decode cX11_solves 39 = .ok (.ifCond .le 5, 3) := by decide +kernel
theorem dX11_solves_42 : decode cX11_solves 42 = .ok (.iconst 0, 1) := by decide +kernel
theorem dX11_solves_43 : decode cX11_solves 43 = .ok (.ireturn, 1) := by decide +kernel
theorem dX11_solves_44 : decode cX11_solves 44 = .ok (.aload_n 0, 1) := by decide +kernel
theorem dX11_solves_45 : decode cX11_solves 45 = .ok (.getfield 47, 3) := by decide +kernel
theorem dX11_solves_48 : decode cX11_solves 48 = .ok (.iconst 3, 1) := by decide +kernel
theorem dX11_solves_49 : decode cX11_solves 49 = .ok (.iload_n 3, 1) := by decide +kernel
theorem dX11_solves_50 : decode cX11_solves 50 = .ok (.iadd, 1) := by decide +kernel
theorem dX11_solves_51 : decode cX11_solves 51 = .ok (.lload 4, 2) := by decide +kernel
theorem dX11_solves_53 : decode cX11_solves 53 = .ok (.lload_n 1, 1) := by decide +kernel
theorem dX11_solves_54 : decode cX11_solves 54 = .ok (.ldiv, 1) := by decide +kernel
theorem dX11_solves_55 : decode cX11_solves 55 = .ok (.l2i, 1) := by decide +kernel
theorem dX11_solves_56 : decode cX11_solves 56 = .ok (.iastore, 1) := by decide +kernel
theorem dX11_solves_57 : decode cX11_solves 57 = .ok (.iinc 3 1, 3) := by decide +kernel
theorem dX11_solves_60 : decode cX11_solves 60 = .ok (.goto (-58), 3) := by decide +kernel
theorem dX11_solves_63 : decode cX11_solves 63 = .ok (.iconst 1, 1) := by decide +kernel
theorem dX11_solves_64 : decode cX11_solves 64 = .ok (.ireturn, 1) := by decide +kernel
set_option maxRecDepth 20000 in
theorem ggX11_replaced_X11_entry : GoodIn wsX11_replaced wsX11_entry := goodIn_r _ [7, 8, 9, 13, 14, 15, 16, 17, 18, 19, 20, 21, 22, 23, 24, 25, 26, 27, 28, 29, 30, 31, 32, 33, 34, 35, 36, 37, 38, 39, 40, 41, 42, 43, 44, 45, 46, 47, 48] rfl (by decide +kernel)
set_option maxRecDepth 20000 in
theorem gX11_replaced_X11_entry : GoodIn wsX11_replaced (wsV RX11 187 RX11 yX11_entry wsX11_entry) := goodIn_app (goodIn_r _ [3, 4, 5, 6] rfl (by decide +kernel)) ggX11_replaced_X11_entry
set_option maxRecDepth 20000 in
theorem ggX11_replaced_X11_replaced : GoodIn wsX11_replaced wsX11_replaced := goodIn_r _ [0, 1, 2, 3, 4, 5, 6, 7, 8, 9, 10, 11, 12, 13, 14, 15, 16, 17, 18, 19, 20, 21, 22, 23, 24, 25, 26, 27, 28, 29, 30, 31, 32, 33, 34, 35, 36, 37, 38, 39, 40, 41, 42, 43, 44, 45, 46, 47, 48] rfl (by decide +kernel)
set_option maxRecDepth 20000 in
theorem gX11_replaced_X11_replaced : GoodIn wsX11_replaced (wsV RX11 210 RX11 yX11_replaced wsX11_replaced) := goodIn_app (goodIn_r _ [10, 11, 12, 6] rfl (by decide +kernel)) ggX11_replaced_X11_replaced
theorem dX11_replaced_0 : decode cX11_replaced 0 = .ok (.iload_n 2, 1) := by decide +kernel
theorem dX11_replaced_1 : decode cX11_replaced 1 = .ok (.aload_n 0, 1) := by decide +kernel
theorem dX11_replaced_2 : decode cX11_replaced 2 = .ok (.getfield 16, 3) := by decide +kernel
theorem dX11_replaced_5 : decode cX11_replaced 5 = .ok (.if_icmp .ne 5, 3) := by decide +kernel
theorem dX11_replaced_8 : decode cX11_replaced 8 = .ok (.lconst 1, 1) := by decide +kernel
theorem dX11_replaced_9 : decode cX11_replaced 9 = .ok (.lreturn, 1) := by decide +kernel
theorem dX11_replaced_10 : decode cX11_replaced 10 = .ok (.lconst 0, 1) := by decide +kernel
theorem dX11_replaced_11 : decode cX11_replaced 11 = .ok (.lstore 4, 2) := by decide +kernel
theorem dX11_replaced_13 : decode cX11_replaced 13 = .ok (.iconst 1, 1) := by decide +kernel
theorem dX11_replaced_14 : decode cX11_replaced 14 = .ok (.istore 6, 2) := by decide +kernel
theorem dX11_replaced_16 : decode cX11_replaced 16 = .ok (.iconst 0, 1) := by decide +kernel
theorem dX11_replaced_17 : decode cX11_replaced 17 = .ok (.istore 7, 2) := by decide +kernel
theorem dX11_replaced_19 : decode cX11_replaced 19 = .ok (.iload 7, 2) := by decide +kernel
theorem dX11_replaced_21 : decode cX11_replaced 21 = .ok (.aload_n 0, 1) := by decide +kernel
theorem dX11_replaced_22 : decode cX11_replaced 22 = .ok (.getfield 16, 3) := by decide +kernel
theorem dX11_replaced_25 : decode cX11_replaced 25 = .ok (.if_icmp .ge 74, 3) := by decide +kernel
theorem dX11_replaced_28 : decode cX11_replaced 28 = .ok (.iload_n 3, 1) := by decide +kernel
theorem dX11_replaced_29 : decode cX11_replaced 29 = .ok (.iload 7, 2) := by decide +kernel
theorem dX11_replaced_31 : decode cX11_replaced 31 = .ok (.ishr, 1) := by decide +kernel
theorem dX11_replaced_32 : decode cX11_replaced 32 = .ok (.iconst 1, 1) := by decide +kernel
theorem dX11_replaced_33 : decode cX11_replaced 33 = .ok (.iand, 1) := by decide +kernel
theorem dX11_replaced_34 : decode cX11_replaced 34 = .ok (.ifCond .ne 59, 3) := by decide +kernel
theorem dX11_replaced_37 : decode cX11_replaced 37 = .ok (.iload 7, 2) := by decide +kernel
theorem dX11_replaced_39 : decode cX11_replaced 39 = .ok (.iload_n 1, 1) := by decide +kernel
theorem dX11_replaced_40 : decode cX11_replaced 40 = .ok (.if_icmp .ne 12, 3) := by decide +kernel
theorem dX11_replaced_43 : decode cX11_replaced 43 = .ok (.aload_n 0, 1) := by decide +kernel
theorem dX11_replaced_44 : decode cX11_replaced 44 = .ok (.getfield 53, 3) := by decide +kernel
theorem dX11_replaced_47 : decode cX11_replaced 47 = .ok (.iload_n 2, 1) := by decide +kernel
theorem dX11_replaced_48 : decode cX11_replaced 48 = .ok (.iaload, 1) := by decide +kernel
theorem dX11_replaced_49 : decode cX11_replaced 49 = .ok (.goto 10, 3) := by decide +kernel
theorem dX11_replaced_52 : decode cX11_replaced 52 = .ok (.aload_n 0, 1) := by decide +kernel
theorem dX11_replaced_53 : decode cX11_replaced 53 = .ok (.iload_n 2, 1) := by decide +kernel
theorem dX11_replaced_54 : decode cX11_replaced 54 = .ok (.iload 7, 2) := by decide +kernel
theorem dX11_replaced_56 : decode cX11_replaced 56 = .ok (.invokevirtual 187, 3) := by decide +kernel
theorem dX11_replaced_59 : decode cX11_replaced 59 = .ok (.istore 8, 2) := by decide +kernel
theorem dX11_replaced_61 : decode cX11_replaced 61 = .ok (.lload 4, 2) := by decide +kernel
theorem dX11_replaced_63 : decode cX11_replaced 63 = .ok (.iload 6, 2) := by decide +kernel
theorem dX11_replaced_65 : decode cX11_replaced 65 = .ok (.i2l, 1) := by decide +kernel
theorem dX11_replaced_66 : decode cX11_replaced 66 = .ok (.iload 8, 2) := by decide +kernel
theorem dX11_replaced_68 : decode cX11_replaced 68 = .ok (.i2l, 1) := by decide +kernel
theorem dX11_replaced_69 : decode cX11_replaced 69 = .ok (.lmul, 1) := by decide +kernel
theorem dX11_replaced_70 : decode cX11_replaced 70 = .ok (.aload_n 0, 1) := by decide +kernel
theorem dX11_replaced_71 : decode cX11_replaced 71 = .ok (.iload_n 1, 1) := by decide +kernel
theorem dX11_replaced_72 : decode cX11_replaced 72 = .ok (.iload_n 2, 1) := by decide +kernel
theorem dX11_replaced_73 : decode cX11_replaced 73 = .ok (.iconst 1, 1) := by decide +kernel
theorem dX11_replaced_74 : decode cX11_replaced 74 = .ok (.iadd, 1) := by decide +kernel
theorem dX11_replaced_75 : decode cX11_replaced 75 = .ok (.iload_n 3, 1) := by decide +kernel
theorem dX11_replaced_76 : decode cX11_replaced 76 = .ok (.iconst 1, 1) := by decide +kernel
theorem dX11_replaced_77 : decode cX11_replaced 77 = .ok (.iload 7, 2) := by decide +kernel
theorem dX11_replaced_79 : decode cX11_replaced 79 = .ok (.ishl, 1) := by decide +kernel
theorem dX11_replaced_80 : decode cX11_replaced 80 = .ok (.ior, 1) := by decide +kernel
theorem dX11_replaced_81 : decode cX11_replaced 81 = .ok (.invokevirtual 210, 3) := by decide +kernel
theorem dX11_replaced_84 : decode cX11_replaced 84 = .ok (.lmul, 1) := by decide +kernel
theorem dX11_replaced_85 : decode cX11_replaced 85 = .ok (.ladd, 1) := by decide +kernel
theorem dX11_replaced_86 : decode cX11_replaced 86 = .ok (.lstore 4, 2) := by decide +kernel
theorem dX11_replaced_88 : decode cX11_replaced 88 = .ok (.iload 6, 2) := by decide +kernel
theorem dX11_replaced_90 : decode cX11_replaced 90 = .ok (.ineg, 1) := by decide +kernel
theorem dX11_replaced_91 : decode cX11_replaced 91 = .ok (.istore 6, 2) := by decide +kernel
theorem dX11_replaced_93 : decode cX11_replaced 93 = .ok (.iinc 7 1, 3) := by decide +kernel
theorem dX11_replaced_96 : decode cX11_replaced 96 = .ok (.goto (-77), 3) := by decide +kernel
theorem dX11_replaced_99 : decode cX11_replaced 99 = .ok (.lload 4, 2) := by decide +kernel
theorem dX11_replaced_101 : decode cX11_replaced 101 = .ok (.lreturn, 1) := by decide +kernel
set_option maxRecDepth 20000 in
theorem ggX11_findParents_X11_isCut : GoodIn wsX11_findParents wsX11_isCut := goodIn_r _ [10, 11, 12, 13, 14, 9, 15, 16, 65, 66, 67, 68, 69, 70, 71, 72, 73, 74, 75, 76, 77, 78, 79, 80, 81, 82, 83, 84, 85, 86, 87, 88, 89, 90, 91, 92, 93, 94, 95, 96, 97, 98, 99, 100] rfl (by decide +kernel)
set_option maxRecDepth 20000 in
theorem gX11_findParents_X11_isCut : GoodIn wsX11_findParents (wsV RX11 224 RX11 yX11_isCut wsX11_isCut) := goodIn_app (goodIn_r _ [6, 7, 8, 9] rfl (by decide +kernel)) ggX11_findParents_X11_isCut
set_option maxRecDepth 20000 in
theorem ggX11_findParents_X11_findParent : GoodIn wsX11_findParents wsX11_findParent := goodIn_r _ [20, 1, 21, 5, 2, 22, 23, 24, 25, 26, 27, 3, 28, 29, 30, 9, 31, 4, 12, 13, 14, 15, 16, 32, 33, 34, 35, 11, 36, 37, 38, 39, 40, 41, 42, 43, 44, 45, 46, 47, 48, 49, 50, 51, 52, 53, 54, 55, 56, 57, 58, 59, 60, 61, 62, 63, 64, 65, 66, 67, 68, 69, 70, 71, 72, 73, 74, 75, 76, 77, 78, 79, 80, 81, 82, 83, 84, 85, 86, 87, 88, 89, 90, 91, 92, 93, 94, 95, 96, 97, 98, 99, 100] rfl (by decide +kernel)
set_option maxRecDepth 20000 in
theorem gX11_findParents_X11_findParent : GoodIn wsX11_findParents (wsV RX11 227 RX11 yX11_findParent wsX11_findParent) := goodIn_app (goodIn_r _ [17, 18, 19, 9] rfl (by decide +kernel)) ggX11_findParents_X11_findParent
theorem dX11_findParents_0 : decode cX11_findParents 0 = .ok (.iconst 0, 1) := by decide +kernel
theorem dX11_findParents_1 : decode cX11_findParents 1 = .ok (.istore_n 3, 1) := by decide +kernel
theorem dX11_findParents_2 : decode cX11_findParents 2 = .ok (.iload_n 3, 1) := by decide +kernel
theorem dX11_findParents_3 : decode cX11_findParents 3 = .ok (.aload_n 0, 1) := by decide +kernel
theorem dX11_findParents_4 : decode cX11_findParents 4 = .ok (.getfield 16, 3) := by decide +kernel
theorem dX11_findParents_7 : decode cX11_findParents 7 = .ok (.iconst 1, 1) := by decide +kernel
theorem dX11_findParents_8 : decode cX11_findParents 8 = .ok (.iadd, 1) := by decide +kernel
theorem dX11_findParents_9 : decode cX11_findParents 9 = .ok (.aload_n 0, 1) := by decide +kernel
theorem dX11_findParents_10 : decode cX11_findParents 10 = .ok (.getfield 16, 3) := by decide +kernel
theorem dX11_findParents_13 : decode cX11_findParents 13 = .ok (.iconst 1, 1) := by decide +kernel
theorem dX11_findParents_14 : decode cX11_findParents 14 = .ok (.iadd, 1) := by decide +kernel
theorem dX11_findParents_15 : decode cX11_findParents 15 = .ok (.imul, 1) := by decide +kernel
theorem dX11_findParents_16 : decode cX11_findParents 16 = .ok (.aload_n 0, 1) := by decide +kernel
theorem dX11_findParents_17 : decode cX11_findParents 17 = .ok (.getfield 16, 3) := by decide +kernel
theorem dX11_findParents_20 : decode cX11_findParents 20 = .ok (.iconst 1, 1) := by decide +kernel
theorem dX11_findParents_21 : decode cX11_findParents 21 = .ok (.iadd, 1) := by decide +kernel
theorem dX11_findParents_22 : decode cX11_findParents 22 = .ok (.imul, 1) := by decide +kernel
theorem dX11_findParents_23 : decode cX11_findParents 23 = .ok (.if_icmp .ge 207, 3) := by decide +kernel
theorem dX11_findParents_26 : decode cX11_findParents 26 = .ok (.aload_n 0, 1) := by decide +kernel
theorem dX11_findParents_27 : decode cX11_findParents 27 = .ok (.getfield 47, 3) := by decide +kernel
theorem dX11_findParents_30 : decode cX11_findParents 30 = .ok (.iconst 0, 1) := by decide +kernel
theorem dX11_findParents_31 : decode cX11_findParents 31 = .ok (.iload_n 3, 1) := by decide +kernel
theorem dX11_findParents_32 : decode cX11_findParents 32 = .ok (.aload_n 0, 1) := by decide +kernel
theorem dX11_findParents_33 : decode cX11_findParents 33 = .ok (.getfield 16, 3) := by decide +kernel
theorem dX11_findParents_36 : decode cX11_findParents 36 = .ok (.iconst 1, 1) := by decide +kernel
theorem dX11_findParents_37 : decode cX11_findParents 37 = .ok (.iadd, 1) := by decide +kernel
theorem dX11_findParents_38 : decode cX11_findParents 38 = .ok (.aload_n 0, 1) := by decide +kernel
theorem dX11_findParents_39 : decode cX11_findParents 39 = .ok (.getfield 16, 3) := by decide +kernel
theorem dX11_findParents_42 : decode cX11_findParents 42 = .ok (.iconst 1, 1) := by decide +kernel
theorem dX11_findParents_43 : decode cX11_findParents 43 = .ok (.iadd, 1) := by decide +kernel
theorem dX11_findParents_44 : decode cX11_findParents 44 = .ok (.imul, 1) := by decide +kernel
theorem dX11_findParents_45 : decode cX11_findParents 45 = .ok (.idiv, 1) := by decide +kernel
theorem dX11_findParents_46 : decode cX11_findParents 46 = .ok (.iconst 1, 1) := by decide +kernel
theorem dX11_findParents_47 : decode cX11_findParents 47 = .ok (.isub, 1) := by decide +kernel
theorem dX11_findParents_48 : decode cX11_findParents 48 = .ok (.iastore, 1) := by decide +kernel
theorem dX11_findParents_49 : decode cX11_findParents 49 = .ok (.aload_n 0, 1) := by decide +kernel
theorem dX11_findParents_50 : decode cX11_findParents 50 = .ok (.getfield 47, 3) := by decide +kernel
theorem dX11_findParents_53 : decode cX11_findParents 53 = .ok (.iconst 1, 1) := by decide +kernel
theorem dX11_findParents_54 : decode cX11_findParents 54 = .ok (.iload_n 3, 1) := by decide +kernel
theorem dX11_findParents_55 : decode cX11_findParents 55 = .ok (.aload_n 0, 1) := by decide +kernel
theorem dX11_findParents_56 : decode cX11_findParents 56 = .ok (.getfield 16, 3) := by decide +kernel
theorem dX11_findParents_59 : decode cX11_findParents 59 = .ok (.iconst 1, 1) := by decide +kernel
theorem dX11_findParents_60 : decode cX11_findParents 60 = .ok (.iadd, 1) := by decide +kernel
theorem dX11_findParents_61 : decode cX11_findParents 61 = .ok (.idiv, 1) := by decide +kernel
theorem dX11_findParents_62 : decode cX11_findParents 62 = .ok (.aload_n 0, 1) := by decide +kernel
theorem dX11_findParents_63 : decode cX11_findParents 63 = .ok (.getfield 16, 3) := by decide +kernel
theorem dX11_findParents_66 : decode cX11_findParents 66 = .ok (.iconst 1, 1) := by decide +kernel
theorem dX11_findParents_67 : decode cX11_findParents 67 = .ok (.iadd, 1) := by decide +kernel
theorem dX11_findParents_68 : decode cX11_findParents 68 = .ok (.irem, 1) := by decide +kernel
theorem dX11_findParents_69 : decode cX11_findParents 69 = .ok (.iconst 1, 1) := by decide +kernel
theorem dX11_findParents_70 : decode cX11_findParents 70 = .ok (.isub, 1) := by decide +kernel
theorem dX11_findParents_71 : decode cX11_findParents 71 = .ok (.iastore, 1) := by decide +kernel
theorem dX11_findParents_72 : decode cX11_findParents 72 = .ok (.aload_n 0, 1) := by decide +kernel
theorem dX11_findParents_73 : decode cX11_findParents 73 = .ok (.getfield 47, 3) := by decide +kernel
theorem dX11_findParents_76 : decode cX11_findParents 76 = .ok (.iconst 2, 1) := by decide +kernel
theorem dX11_findParents_77 : decode cX11_findParents 77 = .ok (.iload_n 3, 1) := by decide +kernel
theorem dX11_findParents_78 : decode cX11_findParents 78 = .ok (.aload_n 0, 1) := by decide +kernel
theorem dX11_findParents_79 : decode cX11_findParents 79 = .ok (.getfield 16, 3) := by decide +kernel
theorem dX11_findParents_82 : decode cX11_findParents 82 = .ok (.iconst 1, 1) := by decide +kernel
theorem dX11_findParents_83 : decode cX11_findParents 83 = .ok (.iadd, 1) := by decide +kernel
theorem dX11_findParents_84 : decode cX11_findParents 84 = .ok (.irem, 1) := by decide +kernel
theorem dX11_findParents_85 : decode cX11_findParents 85 = .ok (.iconst 1, 1) := by decide +kernel
theorem dX11_findParents_86 : decode cX11_findParents 86 = .ok (.isub, 1) := by decide +kernel
theorem dX11_findParents_87 : decode cX11_findParents 87 = .ok (.iastore, 1) := by decide +kernel
theorem dX11_findParents_88 : decode cX11_findParents 88 = .ok (.iconst 0, 1) := by decide +kernel
theorem dX11_findParents_89 : decode cX11_findParents 89 = .ok (.istore 4, 2) := by decide +kernel
theorem dX11_findParents_91 : decode cX11_findParents 91 = .ok (.iload 4, 2) := by decide +kernel
theorem dX11_findParents_93 : decode cX11_findParents 93 = .ok (.bipush 125, 2) := by decide +kernel
theorem dX11_findParents_95 : decode cX11_findParents 95 = .ok (.if_icmp .ge 129, 3) := by decide +kernel
theorem dX11_findParents_98 : decode cX11_findParents 98 = .ok (.aload_n 0, 1) := by decide +kernel
theorem dX11_findParents_99 : decode cX11_findParents 99 = .ok (.getfield 220, 3) := by decide +kernel
theorem dX11_findParents_102 : decode cX11_findParents 102 = .ok (.ifCond .ne 122, 3) := by decide +kernel
theorem dX11_findParents_105 : decode cX11_findParents 105 = .ok (.aload_n 0, 1) := by decide +kernel
theorem dX11_findParents_106 : decode cX11_findParents 106 = .ok (.getfield 50, 3) := by decide +kernel
theorem dX11_findParents_109 : decode cX11_findParents 109 = .ok (.iconst 0, 1) := by decide +kernel
theorem dX11_findParents_110 : decode cX11_findParents 110 = .ok (.iload 4, 2) := by decide +kernel
theorem dX11_findParents_112 : decode cX11_findParents 112 = .ok (.bipush 25, 2) := by decide +kernel
theorem dX11_findParents_114 : decode cX11_findParents 114 = .ok (.idiv, 1) := by decide +kernel
theorem dX11_findParents_115 : decode cX11_findParents 115 = .ok (.iastore, 1) := by decide +kernel
theorem dX11_findParents_116 : decode cX11_findParents 116 = .ok (.aload_n 0, 1) := by decide +kernel
theorem dX11_findParents_117 : decode cX11_findParents 117 = .ok (.getfield 50, 3) := by decide +kernel
theorem dX11_findParents_120 : decode cX11_findParents 120 = .ok (.iconst 1, 1) := by decide +kernel
theorem dX11_findParents_121 : decode cX11_findParents 121 = .ok (.iload 4, 2) := by decide +kernel
theorem dX11_findParents_123 : decode cX11_findParents 123 = .ok (.iconst 5, 1) := by decide +kernel
theorem dX11_findParents_124 : decode cX11_findParents 124 = .ok (.idiv, 1) := by decide +kernel
theorem dX11_findParents_125 : decode cX11_findParents 125 = .ok (.iconst 5, 1) := by decide +kernel
theorem dX11_findParents_126 : decode cX11_findParents 126 = .ok (.irem, 1) := by decide +kernel
theorem dX11_findParents_127 : decode cX11_findParents 127 = .ok (.iastore, 1) := by decide +kernel
theorem dX11_findParents_128 : decode cX11_findParents 128 = .ok (.aload_n 0, 1) := by decide +kernel
theorem dX11_findParents_129 : decode cX11_findParents 129 = .ok (.getfield 50, 3) := by decide +kernel
theorem dX11_findParents_132 : decode cX11_findParents 132 = .ok (.iconst 2, 1) := by decide +kernel
theorem dX11_findParents_133 : decode cX11_findParents 133 = .ok (.iload 4, 2) := by decide +kernel
theorem dX11_findParents_135 : decode cX11_findParents 135 = .ok (.iconst 5, 1) := by decide +kernel
theorem dX11_findParents_136 : decode cX11_findParents 136 = .ok (.irem, 1) := by decide +kernel
theorem dX11_findParents_137 : decode cX11_findParents 137 = .ok (.iastore, 1) := by decide +kernel
theorem dX11_findParents_138 : decode cX11_findParents 138 = .ok (.aload_n 0, 1) := by decide +kernel
theorem dX11_findParents_139 : decode cX11_findParents 139 = .ok (.aload_n 0, 1) := by decide +kernel
theorem dX11_findParents_140 : decode cX11_findParents 140 = .ok (.getfield 47, 3) := by decide +kernel
theorem dX11_findParents_143 : decode cX11_findParents 143 = .ok (.iconst 0, 1) := by decide +kernel
theorem dX11_findParents_144 : decode cX11_findParents 144 = .ok (.iaload, 1) := by decide +kernel
theorem dX11_findParents_145 : decode cX11_findParents 145 = .ok (.aload_n 0, 1) := by decide +kernel
theorem dX11_findParents_146 : decode cX11_findParents 146 = .ok (.getfield 60, 3) := by decide +kernel
theorem dX11_findParents_149 : decode cX11_findParents 149 = .ok (.iconst 0, 1) := by decide +kernel
theorem dX11_findParents_150 : decode cX11_findParents 150 = .ok (.iaload, 1) := by decide +kernel
theorem dX11_findParents_151 : decode cX11_findParents 151 = .ok (.aload_n 0, 1) := by decide +kernel
theorem dX11_findParents_152 : decode cX11_findParents 152 = .ok (.getfield 50, 3) := by decide +kernel
theorem dX11_findParents_155 : decode cX11_findParents 155 = .ok (.iconst 0, 1) := by decide +kernel
theorem dX11_findParents_156 : decode cX11_findParents 156 = .ok (.iaload, 1) := by decide +kernel
theorem dX11_findParents_157 : decode cX11_findParents 157 = .ok (.invokevirtual 224, 3) := by decide +kernel
theorem dX11_findParents_160 : decode cX11_findParents 160 = .ok (.ifCond .eq 58, 3) := by decide +kernel
theorem dX11_findParents_163 : decode cX11_findParents 163 = .ok (.aload_n 0, 1) := by decide +kernel
theorem dX11_findParents_164 : decode cX11_findParents 164 = .ok (.aload_n 0, 1) := by decide +kernel
theorem dX11_findParents_165 : decode cX11_findParents 165 = .ok (.getfield 47, 3) := by decide +kernel
theorem dX11_findParents_168 : decode cX11_findParents 168 = .ok (.iconst 1, 1) := by decide +kernel
theorem dX11_findParents_169 : decode cX11_findParents 169 = .ok (.iaload, 1) := by decide +kernel
theorem dX11_findParents_170 : decode cX11_findParents 170 = .ok (.aload_n 0, 1) := by decide +kernel
theorem dX11_findParents_171 : decode cX11_findParents 171 = .ok (.getfield 60, 3) := by decide +kernel
theorem dX11_findParents_174 : decode cX11_findParents 174 = .ok (.iconst 1, 1) := by decide +kernel
theorem dX11_findParents_175 : decode cX11_findParents 175 = .ok (.iaload, 1) := by decide +kernel
theorem dX11_findParents_176 : decode cX11_findParents 176 = .ok (.aload_n 0, 1) := by decide +kernel
theorem dX11_findParents_177 : decode cX11_findParents 177 = .ok (.getfield 50, 3) := by decide +kernel
theorem dX11_findParents_180 : decode cX11_findParents 180 = .ok (.iconst 1, 1) := by decide +kernel
theorem dX11_findParents_181 : decode cX11_findParents 181 = .ok (.iaload, 1) := by decide +kernel
theorem dX11_findParents_182 : decode cX11_findParents 182 = .ok (.invokevirtual 224, 3) := by decide +kernel
theorem dX11_findParents_185 : decode cX11_findParents 185 = .ok (.ifCond .eq 33, 3) := by decide +kernel
theorem dX11_findParents_188 : decode cX11_findParents 188 = .ok (.aload_n 0, 1) := by decide +kernel
theorem dX11_findParents_189 : decode cX11_findParents 189 = .ok (.aload_n 0, 1) := by decide +kernel
theorem dX11_findParents_190 : decode cX11_findParents 190 = .ok (.getfield 47, 3) := by decide +kernel
theorem dX11_findParents_193 : decode cX11_findParents 193 = .ok (.iconst 2, 1) := by decide +kernel
theorem dX11_findParents_194 : decode cX11_findParents 194 = .ok (.iaload, 1) := by decide +kernel
theorem dX11_findParents_195 : decode cX11_findParents 195 = .ok (.aload_n 0, 1) := by decide +kernel
theorem dX11_findParents_196 : decode cX11_findParents 196 = .ok (.getfield 60, 3) := by decide +kernel
theorem dX11_findParents_199 : decode cX11_findParents 199 = .ok (.iconst 2, 1) := by decide +kernel
theorem dX11_findParents_200 : decode cX11_findParents 200 = .ok (.iaload, 1) := by decide +kernel
theorem dX11_findParents_201 : decode cX11_findParents 201 = .ok (.aload_n 0, 1) := by decide +kernel
theorem dX11_findParents_202 : decode cX11_findParents 202 = .ok (.getfield 50, 3) := by decide +kernel
theorem dX11_findParents_205 : decode cX11_findParents 205 = .ok (.iconst 2, 1) := by decide +kernel
theorem dX11_findParents_206 : decode cX11_findParents 206 = .ok (.iaload, 1) := by decide +kernel
theorem dX11_findParents_207 : decode cX11_findParents 207 = .ok (.invokevirtual 224, 3) := by decide +kernel
theorem dX11_findParents_210 : decode cX11_findParents 210 = .ok (.ifCond .eq 8, 3) := by decide +kernel
theorem dX11_findParents_213 : decode cX11_findParents 213 = .ok (.aload_n 0, 1) := by decide +kernel
theorem dX11_findParents_214 : decode cX11_findParents 214 = .ok (.lload_n 1, 1) := by decide +kernel
theorem dX11_findParents_215 : decode cX11_findParents 215 = .ok (.invokevirtual 227, 3) := by decide +kernel
theorem dX11_findParents_218 : decode cX11_findParents 218 = .ok (.iinc 4 1, 3) := by decide +kernel
theorem dX11_findParents_221 : decode cX11_findParents 221 = .ok (.goto (-130), 3) := by decide +kernel
theorem dX11_findParents_224 : decode cX11_findParents 224 = .ok (.iinc 3 1, 3) := by decide +kernel
theorem dX11_findParents_227 : decode cX11_findParents 227 = .ok (.goto (-225), 3) := by decide +kernel
theorem dX11_findParents_230 : decode cX11_findParents 230 = .ok (.return_, 1) := by decide +kernel
set_option maxRecDepth 20000 in
theorem ggX11_findParent_X11_behind : GoodIn wsX11_findParent wsX11_behind := goodIn_r _ [16, 4, 17, 18, 19, 20, 15, 21, 22, 23, 24, 25, 26, 27, 57, 58, 59, 60, 61, 62, 63, 64, 65, 66, 67, 68, 69, 70, 71, 72, 73, 74, 75, 76, 77, 78, 79, 80, 81, 82, 83, 84, 85, 86, 87, 88, 89, 90, 91, 92] rfl (by decide +kernel)
set_option maxRecDepth 20000 in
theorem gX11_findParent_X11_behind : GoodIn wsX11_findParent (wsV RX11 231 RX11 yX11_behind wsX11_behind) := goodIn_app (goodIn_r _ [12, 13, 14, 15] rfl (by decide +kernel)) ggX11_findParent_X11_behind
set_option maxRecDepth 20000 in
theorem ggX11_findParent_X11_before : GoodIn wsX11_findParent wsX11_before := goodIn_r _ [31, 4, 17, 23, 24, 25, 15, 26, 27, 57, 58, 59, 60, 61, 62, 63, 64, 65, 66, 67, 68, 69, 70, 71, 72, 73, 74, 75, 76, 77, 78, 79, 80, 81, 82, 83, 84, 85, 86, 87, 88, 89, 90, 91, 92] rfl (by decide +kernel)
set_option maxRecDepth 20000 in
theorem gX11_findParent_X11_before : GoodIn wsX11_findParent (wsV RX11 234 RX11 yX11_before wsX11_before) := goodIn_app (goodIn_r _ [28, 29, 30, 15] rfl (by decide +kernel)) ggX11_findParent_X11_before
set_option maxRecDepth 20000 in
theorem ggX11_findParent_X11_solves : GoodIn wsX11_findParent wsX11_solves := goodIn_r _ [35, 1, 36, 37, 8, 38, 39, 4, 40, 41, 42, 15, 43, 2, 44, 45, 46, 47, 22, 27, 57, 58, 59, 60, 61, 62, 63, 64, 65, 66, 67, 68, 69, 70, 71, 72, 73, 74, 75, 76, 77, 78, 79, 80, 81, 82, 83, 84, 85, 86, 87, 88, 89, 90, 91, 92] rfl (by decide +kernel)
set_option maxRecDepth 20000 in
theorem gX11_findParent_X11_solves : GoodIn wsX11_findParent (wsV RX11 237 RX11 yX11_solves wsX11_solves) := goodIn_app (goodIn_r _ [32, 33, 34, 15] rfl (by decide +kernel)) ggX11_findParent_X11_solves
set_option maxRecDepth 20000 in
theorem ggX11_findParent_X11_enter : GoodIn wsX11_findParent wsX11_enter := goodIn_r _ [51, 5, 52, 4, 53, 54, 55, 15, 56, 57, 58, 59, 60, 61, 62, 63, 64, 65, 66, 67, 68, 69, 70, 71, 72, 73, 74, 75, 76, 77, 78, 79, 80, 81, 82, 83, 84, 85, 86, 87, 88, 89, 90, 91, 92] rfl (by decide +kernel)
set_option maxRecDepth 20000 in
theorem gX11_findParent_X11_enter : GoodIn wsX11_findParent (wsV RX11 241 RX11 yX11_enter wsX11_enter) := goodIn_app (goodIn_r _ [48, 49, 50, 15] rfl (by decide +kernel)) ggX11_findParent_X11_enter
theorem dX11_findParent_0 : decode cX11_findParent 0 = .ok (.iconst 0, 1) := by decide +kernel
theorem dX11_findParent_1 : decode cX11_findParent 1 = .ok (.istore_n 3, 1) := by decide +kernel
theorem dX11_findParent_2 : decode cX11_findParent 2 = .ok (.iload_n 3, 1) := by decide +kernel
theorem dX11_findParent_3 : decode cX11_findParent 3 = .ok (.aload_n 0, 1) := by decide +kernel
theorem dX11_findParent_4 : decode cX11_findParent 4 = .ok (.getfield 16, 3) := by decide +kernel
theorem dX11_findParent_7 : decode cX11_findParent 7 = .ok (.if_icmp .ge 63, 3) := by decide +kernel
theorem dX11_findParent_10 : decode cX11_findParent 10 = .ok (.aload_n 0, 1) := by decide +kernel
theorem dX11_findParent_11 : decode cX11_findParent 11 = .ok (.getfield 53, 3) := by decide +kernel
theorem dX11_findParent_14 : decode cX11_findParent 14 = .ok (.iload_n 3, 1) := by decide +kernel
theorem dX11_findParent_15 : decode cX11_findParent 15 = .ok (.aload_n 0, 1) := by decide +kernel
theorem dX11_findParent_16 : decode cX11_findParent 16 = .ok (.getfield 60, 3) := by decide +kernel
theorem dX11_findParent_19 : decode cX11_findParent 19 = .ok (.iconst 3, 1) := by decide +kernel
theorem dX11_findParent_20 : decode cX11_findParent 20 = .ok (.iload_n 3, 1) := by decide +kernel
theorem dX11_findParent_21 : decode cX11_findParent 21 = .ok (.iadd, 1) := by decide +kernel
theorem dX11_findParent_22 : decode cX11_findParent 22 = .ok (.iaload, 1) := by decide +kernel
theorem dX11_findParent_23 : decode cX11_findParent 23 = .ok (.aload_n 0, 1) := by decide +kernel
theorem dX11_findParent_24 : decode cX11_findParent 24 = .ok (.iconst 1, 1) := by decide +kernel
theorem dX11_findParent_25 : decode cX11_findParent 25 = .ok (.aload_n 0, 1) := by decide +kernel
theorem dX11_findParent_26 : decode cX11_findParent 26 = .ok (.getfield 60, 3) := by decide +kernel
theorem dX11_findParent_29 : decode cX11_findParent 29 = .ok (.iconst 1, 1) := by decide +kernel
theorem dX11_findParent_30 : decode cX11_findParent 30 = .ok (.iaload, 1) := by decide +kernel
theorem dX11_findParent_31 : decode cX11_findParent 31 = .ok (.iload_n 3, 1) := by decide +kernel
theorem dX11_findParent_32 : decode cX11_findParent 32 = .ok (.invokevirtual 231, 3) := by decide +kernel
theorem dX11_findParent_35 : decode cX11_findParent 35 = .ok (.isub, 1) := by decide +kernel
theorem dX11_findParent_36 : decode cX11_findParent 36 = .ok (.aload_n 0, 1) := by decide +kernel
theorem dX11_findParent_37 : decode cX11_findParent 37 = .ok (.iconst 2, 1) := by decide +kernel
theorem dX11_findParent_38 : decode cX11_findParent 38 = .ok (.iload_n 3, 1) := by decide +kernel
theorem dX11_findParent_39 : decode cX11_findParent 39 = .ok (.invokevirtual 234, 3) := by decide +kernel
theorem dX11_findParent_42 : decode cX11_findParent 42 = .ok (.isub, 1) := by decide +kernel
theorem dX11_findParent_43 : decode cX11_findParent 43 = .ok (.aload_n 0, 1) := by decide +kernel
theorem dX11_findParent_44 : decode cX11_findParent 44 = .ok (.iconst 0, 1) := by decide +kernel
theorem dX11_findParent_45 : decode cX11_findParent 45 = .ok (.aload_n 0, 1) := by decide +kernel
theorem dX11_findParent_46 : decode cX11_findParent 46 = .ok (.getfield 60, 3) := by decide +kernel
theorem dX11_findParent_49 : decode cX11_findParent 49 = .ok (.iconst 0, 1) := by decide +kernel
theorem dX11_findParent_50 : decode cX11_findParent 50 = .ok (.iaload, 1) := by decide +kernel
theorem dX11_findParent_51 : decode cX11_findParent 51 = .ok (.iload_n 3, 1) := by decide +kernel
theorem dX11_findParent_52 : decode cX11_findParent 52 = .ok (.invokevirtual 231, 3) := by decide +kernel
theorem dX11_findParent_55 : decode cX11_findParent 55 = .ok (.iadd, 1) := by decide +kernel
theorem dX11_findParent_56 : decode cX11_findParent 56 = .ok (.aload_n 0, 1) := by decide +kernel
theorem dX11_findParent_57 : decode cX11_findParent 57 = .ok (.iconst 1, 1) := by decide +kernel
theorem dX11_findParent_58 : decode cX11_findParent 58 = .ok (.iload_n 3, 1) := by decide +kernel
theorem dX11_findParent_59 : decode cX11_findParent 59 = .ok (.invokevirtual 234, 3) := by decide +kernel
theorem dX11_findParent_62 : decode cX11_findParent 62 = .ok (.iadd, 1) := by decide +kernel
theorem dX11_findParent_63 : decode cX11_findParent 63 = .ok (.iastore, 1) := by decide +kernel
theorem dX11_findParent_64 : decode cX11_findParent 64 = .ok (.iinc 3 1, 3) := by decide +kernel
theorem dX11_findParent_67 : decode cX11_findParent 67 = .ok (.goto (-65), 3) := by decide +kernel
theorem dX11_findParent_70 : decode cX11_findParent 70 = .ok (.iconst 3, 1) := by decide +kernel
theorem dX11_findParent_71 : decode cX11_findParent 71 = .ok (.istore_n 3, 1) := by decide +kernel
theorem dX11_findParent_72 : decode cX11_findParent 72 = .ok (.iload_n 3, 1) := by decide +kernel
theorem dX11_findParent_73 : decode cX11_findParent 73 = .ok (.bipush 7, 2) := by decide +kernel
theorem dX11_findParent_75 : decode cX11_findParent 75 = .ok (.if_icmp .ge 16, 3) := by decide +kernel
theorem dX11_findParent_78 : decode cX11_findParent 78 = .ok (.aload_n 0, 1) := by decide +kernel
theorem dX11_findParent_79 : decode cX11_findParent 79 = .ok (.getfield 47, 3) := by decide +kernel
theorem dX11_findParent_82 : decode cX11_findParent 82 = .ok (.iload_n 3, 1) := by decide +kernel
theorem dX11_findParent_83 : decode cX11_findParent 83 = .ok (.iconst 0, 1) := by decide +kernel
theorem dX11_findParent_84 : decode cX11_findParent 84 = .ok (.iastore, 1) := by decide +kernel
theorem dX11_findParent_85 : decode cX11_findParent 85 = .ok (.iinc 3 1, 3) := by decide +kernel
theorem dX11_findParent_88 : decode cX11_findParent 88 = .ok (.goto (-16), 3) := by decide +kernel
theorem dX11_findParent_91 : decode cX11_findParent 91 = .ok (.aload_n 0, 1) := by decide +kernel
theorem dX11_findParent_92 : decode cX11_findParent 92 = .ok (.lload_n 1, 1) := by decide +kernel
theorem dX11_findParent_93 : decode cX11_findParent 93 = .ok (.invokevirtual 237, 3) := by decide +kernel
theorem dX11_findParent_96 : decode cX11_findParent 96 = .ok (.ifCond .eq 80, 3) := by decide +kernel
theorem dX11_findParent_99 : decode cX11_findParent 99 = .ok (.aload_n 0, 1) := by decide +kernel
theorem dX11_findParent_100 : decode cX11_findParent 100 = .ok (.invokevirtual 241, 3) := by decide +kernel
theorem dX11_findParent_103 : decode cX11_findParent 103 = .ok (.istore_n 3, 1) := by decide +kernel
theorem dX11_findParent_104 : decode cX11_findParent 104 = .ok (.iload_n 3, 1) := by decide +kernel
theorem dX11_findParent_105 : decode cX11_findParent 105 = .ok (.bipush (-2), 2) := by decide +kernel
theorem dX11_findParent_107 : decode cX11_findParent 107 = .ok (.if_icmp .eq 69, 3) := by decide +kernel
theorem dX11_findParent_110 : decode cX11_findParent 110 = .ok (.aload_n 0, 1) := by decide +kernel
theorem dX11_findParent_111 : decode cX11_findParent 111 = .ok (.getfield 198, 3) := by decide +kernel
theorem dX11_findParent_114 : decode cX11_findParent 114 = .ok (.sipush 200, 3) := by decide +kernel
theorem dX11_findParent_117 : decode cX11_findParent 117 = .ok (.invokestatic 245, 3) := by decide +kernel
theorem dX11_findParent_120 : decode cX11_findParent 120 = .ok (.istore 4, 2) := by decide +kernel
theorem dX11_findParent_122 : decode cX11_findParent 122 = .ok (.iload 4, 2) := by decide +kernel
theorem dX11_findParent_124 : decode cX11_findParent 124 = .ok (.iload_n 3, 1) := by decide +kernel
theorem dX11_findParent_125 : decode cX11_findParent 125 = .ok (.if_icmp .le 25, 3) := by decide +kernel
theorem dX11_findParent_128 : decode cX11_findParent 128 = .ok (.aload_n 0, 1) := by decide +kernel
theorem dX11_findParent_129 : decode cX11_findParent 129 = .ok (.getfield 56, 3) := by decide +kernel
theorem dX11_findParent_132 : decode cX11_findParent 132 = .ok (.iload 4, 2) := by decide +kernel
theorem dX11_findParent_134 : decode cX11_findParent 134 = .ok (.aload_n 0, 1) := by decide +kernel
theorem dX11_findParent_135 : decode cX11_findParent 135 = .ok (.getfield 56, 3) := by decide +kernel
theorem dX11_findParent_138 : decode cX11_findParent 138 = .ok (.iload 4, 2) := by decide +kernel
theorem dX11_findParent_140 : decode cX11_findParent 140 = .ok (.iconst 1, 1) := by decide +kernel
theorem dX11_findParent_141 : decode cX11_findParent 141 = .ok (.isub, 1) := by decide +kernel
theorem dX11_findParent_142 : decode cX11_findParent 142 = .ok (.baload, 1) := by decide +kernel
theorem dX11_findParent_143 : decode cX11_findParent 143 = .ok (.bastore, 1) := by decide +kernel
theorem dX11_findParent_144 : decode cX11_findParent 144 = .ok (.iinc 4 (-1), 3) := by decide +kernel
theorem dX11_findParent_147 : decode cX11_findParent 147 = .ok (.goto (-25), 3) := by decide +kernel
theorem dX11_findParent_150 : decode cX11_findParent 150 = .ok (.aload_n 0, 1) := by decide +kernel
theorem dX11_findParent_151 : decode cX11_findParent 151 = .ok (.getfield 56, 3) := by decide +kernel
theorem dX11_findParent_154 : decode cX11_findParent 154 = .ok (.iload_n 3, 1) := by decide +kernel
theorem dX11_findParent_155 : decode cX11_findParent 155 = .ok (.iconst 0, 1) := by decide +kernel
theorem dX11_findParent_156 : decode cX11_findParent 156 = .ok (.bastore, 1) := by decide +kernel
theorem dX11_findParent_157 : decode cX11_findParent 157 = .ok (.aload_n 0, 1) := by decide +kernel
theorem dX11_findParent_158 : decode cX11_findParent 158 = .ok (.aload_n 0, 1) := by decide +kernel
theorem dX11_findParent_159 : decode cX11_findParent 159 = .ok (.getfield 198, 3) := by decide +kernel
theorem dX11_findParent_162 : decode cX11_findParent 162 = .ok (.sipush 200, 3) := by decide +kernel
theorem dX11_findParent_165 : decode cX11_findParent 165 = .ok (.if_icmp .le 7, 3) := by decide +kernel
theorem dX11_findParent_168 : decode cX11_findParent 168 = .ok (.iconst 1, 1) := by decide +kernel
theorem dX11_findParent_169 : decode cX11_findParent 169 = .ok (.goto 4, 3) := by decide +kernel
theorem dX11_findParent_172 : decode cX11_findParent 172 = .ok (.iconst 0, 1) := by decide +kernel
theorem dX11_findParent_173 : decode cX11_findParent 173 = .ok (.putfield 220, 3) := by decide +kernel
theorem dX11_findParent_176 : decode cX11_findParent 176 = .ok (.return_, 1) := by decide +kernel
theorem dX11_firstOpen_0 : decode cX11_firstOpen 0 = .ok (.iconst 0, 1) := by decide +kernel
theorem dX11_firstOpen_1 : decode cX11_firstOpen 1 = .ok (.istore_n 1, 1) := by decide +kernel
theorem dX11_firstOpen_2 : decode cX11_firstOpen 2 = .ok (.iload_n 1, 1) := by decide +kernel
theorem dX11_firstOpen_3 : decode cX11_firstOpen 3 = .ok (.aload_n 0, 1) := by decide +kernel
theorem dX11_firstOpen_4 : decode cX11_firstOpen 4 = .ok (.getfield 198, 3) := by decide +kernel
theorem dX11_firstOpen_7 : decode cX11_firstOpen 7 = .ok (.if_icmp .ge 20, 3) := by decide +kernel
theorem dX11_firstOpen_10 : decode cX11_firstOpen 10 = .ok (.aload_n 0, 1) := by decide +kernel
theorem dX11_firstOpen_11 : decode cX11_firstOpen 11 = .ok (.getfield 56, 3) := by decide +kernel
theorem dX11_firstOpen_14 : decode cX11_firstOpen 14 = .ok (.iload_n 1, 1) := by decide +kernel
theorem dX11_firstOpen_15 : decode cX11_firstOpen 15 = .ok (.baload, 1) := by decide +kernel
theorem dX11_firstOpen_16 : decode cX11_firstOpen 16 = .ok (.ifCond .ne 5, 3) := by decide +kernel
theorem dX11_firstOpen_19 : decode cX11_firstOpen 19 = .ok (.iload_n 1, 1) := by decide +kernel
theorem dX11_firstOpen_20 : decode cX11_firstOpen 20 = .ok (.ireturn, 1) := by decide +kernel
theorem dX11_firstOpen_21 : decode cX11_firstOpen 21 = .ok (.iinc 1 1, 3) := by decide +kernel
theorem dX11_firstOpen_24 : decode cX11_firstOpen 24 = .ok (.goto (-22), 3) := by decide +kernel
theorem dX11_firstOpen_27 : decode cX11_firstOpen 27 = .ok (.bipush (-2), 2) := by decide +kernel
theorem dX11_firstOpen_29 : decode cX11_firstOpen 29 = .ok (.ireturn, 1) := by decide +kernel
set_option maxRecDepth 20000 in
theorem ggX11_computeClosure_X11_isMissing : GoodIn wsX11_computeClosure wsX11_isMissing := goodIn_r _ [15, 8, 16, 84, 85, 86, 87, 88, 89, 90, 91, 92, 93, 94, 95, 96, 97, 98, 99, 100, 101, 102, 103, 104, 105, 106, 107, 108, 109, 110, 111, 112, 113, 114, 115, 116, 117, 118, 119] rfl (by decide +kernel)
set_option maxRecDepth 20000 in
theorem gX11_computeClosure_X11_isMissing : GoodIn wsX11_computeClosure (wsV RX11 184 RX11 yX11_isMissing wsX11_isMissing) := goodIn_app (goodIn_r _ [11, 12, 13, 14] rfl (by decide +kernel)) ggX11_computeClosure_X11_isMissing
set_option maxRecDepth 20000 in
theorem ggX11_computeClosure_X11_minor : GoodIn wsX11_computeClosure wsX11_minor := goodIn_r _ [20, 8, 21, 22, 23, 14, 24, 16, 25, 17, 18, 19, 84, 85, 86, 87, 88, 89, 90, 91, 92, 93, 94, 95, 96, 97, 98, 99, 100, 101, 102, 103, 104, 105, 106, 107, 108, 109, 110, 111, 112, 113, 114, 115, 116, 117, 118, 119] rfl (by decide +kernel)
set_option maxRecDepth 20000 in
theorem gX11_computeClosure_X11_minor : GoodIn wsX11_computeClosure (wsV RX11 190 RX11 yX11_minor wsX11_minor) := goodIn_app (goodIn_r _ [17, 18, 19, 14] rfl (by decide +kernel)) ggX11_computeClosure_X11_minor
set_option maxRecDepth 20000 in
theorem ggX11_computeClosure_X11_enter : GoodIn wsX11_computeClosure wsX11_enter := goodIn_r _ [29, 1, 6, 3, 30, 31, 32, 14, 33, 84, 85, 86, 87, 88, 89, 90, 91, 92, 93, 94, 95, 96, 97, 98, 99, 100, 101, 102, 103, 104, 105, 106, 107, 108, 109, 110, 111, 112, 113, 114, 115, 116, 117, 118, 119] rfl (by decide +kernel)
set_option maxRecDepth 20000 in
theorem gX11_computeClosure_X11_enter : GoodIn wsX11_computeClosure (wsV RX11 241 RX11 yX11_enter wsX11_enter) := goodIn_app (goodIn_r _ [26, 27, 28, 14] rfl (by decide +kernel)) ggX11_computeClosure_X11_enter
set_option maxRecDepth 20000 in
theorem ggX11_computeClosure_X11_findParents : GoodIn wsX11_computeClosure wsX11_findParents := goodIn_r _ [37, 8, 3, 2, 38, 5, 39, 40, 41, 14, 42, 25, 43, 44, 45, 46, 16, 47, 48, 49, 50, 51, 1, 52, 53, 54, 55, 4, 56, 57, 58, 59, 60, 61, 62, 63, 64, 65, 66, 67, 68, 69, 70, 71, 72, 73, 74, 75, 76, 77, 78, 79, 21, 22, 23, 24, 26, 27, 28, 29, 6, 30, 31, 32, 33, 84, 85, 86, 87, 88, 89, 90, 91, 92, 93, 94, 95, 96, 97, 98, 99, 100, 101, 102, 103, 104, 105, 106, 107, 108, 109, 110, 111, 112, 113, 114, 115, 116, 117, 118, 119] rfl (by decide +kernel)
set_option maxRecDepth 20000 in
theorem gX11_computeClosure_X11_findParents : GoodIn wsX11_computeClosure (wsV RX11 248 RX11 yX11_findParents wsX11_findParents) := goodIn_app (goodIn_r _ [34, 35, 36, 14] rfl (by decide +kernel)) ggX11_computeClosure_X11_findParents
set_option maxRecDepth 20000 in
theorem ggX11_computeClosure_X11_firstOpen : GoodIn wsX11_computeClosure wsX11_firstOpen := goodIn_r _ [83, 1, 4, 84, 85, 86, 87, 88, 89, 90, 91, 92, 93, 94, 95, 96, 97, 98, 99, 100, 101, 102, 103, 104, 105, 106, 107, 108, 109, 110, 111, 112, 113, 114, 115, 116, 117, 118, 119] rfl (by decide +kernel)
set_option maxRecDepth 20000 in
theorem gX11_computeClosure_X11_firstOpen : GoodIn wsX11_computeClosure (wsV RX11 251 RX11 yX11_firstOpen wsX11_firstOpen) := goodIn_app (goodIn_r _ [80, 81, 82, 14] rfl (by decide +kernel)) ggX11_computeClosure_X11_firstOpen
theorem dX11_computeClosure_0 : decode cX11_computeClosure 0 = .ok (.aload_n 0, 1) := by decide +kernel
theorem dX11_computeClosure_1 : decode cX11_computeClosure 1 = .ok (.invokevirtual 184, 3) := by decide +kernel
theorem dX11_computeClosure_4 : decode cX11_computeClosure 4 = .ok (.ifCond .eq 6, 3) := by decide +kernel
theorem dX11_computeClosure_7 : decode cX11_computeClosure 7 = .ok (.bipush (-6), 2) := by decide +kernel
theorem dX11_computeClosure_9 : decode cX11_computeClosure 9 = .ok (.ireturn, 1) := by decide +kernel
theorem dX11_computeClosure_10 : decode cX11_computeClosure 10 = .ok (.aload_n 0, 1) := by decide +kernel
theorem dX11_computeClosure_11 : decode cX11_computeClosure 11 = .ok (.iconst 0, 1) := by decide +kernel
theorem dX11_computeClosure_12 : decode cX11_computeClosure 12 = .ok (.iconst 0, 1) := by decide +kernel
theorem dX11_computeClosure_13 : decode cX11_computeClosure 13 = .ok (.invokevirtual 190, 3) := by decide +kernel
theorem dX11_computeClosure_16 : decode cX11_computeClosure 16 = .ok (.lstore_n 1, 1) := by decide +kernel
theorem dX11_computeClosure_17 : decode cX11_computeClosure 17 = .ok (.lload_n 1, 1) := by decide +kernel
theorem dX11_computeClosure_18 : decode cX11_computeClosure 18 = .ok (.lconst 0, 1) := by decide +kernel
theorem dX11_computeClosure_19 : decode cX11_computeClosure 19 = .ok (.lcmp, 1) := by decide +kernel
theorem dX11_computeClosure_20 : decode cX11_computeClosure 20 = .ok (.ifCond .ne 6, 3) := by decide +kernel
theorem dX11_computeClosure_23 : decode cX11_computeClosure 23 = .ok (.bipush (-8), 2) := by decide +kernel
theorem dX11_computeClosure_25 : decode cX11_computeClosure 25 = .ok (.ireturn, 1) := by decide +kernel
theorem dX11_computeClosure_26 : decode cX11_computeClosure 26 = .ok (.aload_n 0, 1) := by decide +kernel
theorem dX11_computeClosure_27 : decode cX11_computeClosure 27 = .ok (.iconst 0, 1) := by decide +kernel
theorem dX11_computeClosure_28 : decode cX11_computeClosure 28 = .ok (.putfield 198, 3) := by decide +kernel
theorem dX11_computeClosure_31 : decode cX11_computeClosure 31 = .ok (.aload_n 0, 1) := by decide +kernel
theorem dX11_computeClosure_32 : decode cX11_computeClosure 32 = .ok (.iconst 0, 1) := by decide +kernel
theorem dX11_computeClosure_33 : decode cX11_computeClosure 33 = .ok (.putfield 220, 3) := by decide +kernel
theorem dX11_computeClosure_36 : decode cX11_computeClosure 36 = .ok (.iconst 0, 1) := by decide +kernel
theorem dX11_computeClosure_37 : decode cX11_computeClosure 37 = .ok (.istore_n 3, 1) := by decide +kernel
theorem dX11_computeClosure_38 : decode cX11_computeClosure 38 = .ok (.iload_n 3, 1) := by decide +kernel
theorem dX11_computeClosure_39 : decode cX11_computeClosure 39 = .ok (.bipush 7, 2) := by decide +kernel
theorem dX11_computeClosure_41 : decode cX11_computeClosure 41 = .ok (.if_icmp .ge 25, 3) := by decide +kernel
theorem dX11_computeClosure_44 : decode cX11_computeClosure 44 = .ok (.aload_n 0, 1) := by decide +kernel
theorem dX11_computeClosure_45 : decode cX11_computeClosure 45 = .ok (.getfield 47, 3) := by decide +kernel
theorem dX11_computeClosure_48 : decode cX11_computeClosure 48 = .ok (.iload_n 3, 1) := by decide +kernel
theorem dX11_computeClosure_49 : decode cX11_computeClosure 49 = .ok (.iload_n 3, 1) := by decide +kernel
theorem dX11_computeClosure_50 : decode cX11_computeClosure 50 = .ok (.iconst 3, 1) := by decide +kernel
theorem dX11_computeClosure_51 : decode cX11_computeClosure 51 = .ok (.if_icmp .ge 7, 3) := by decide +kernel
theorem dX11_computeClosure_54 : decode cX11_computeClosure 54 = .ok (.iconst (-1), 1) := by decide +kernel
theorem dX11_computeClosure_55 : decode cX11_computeClosure 55 = .ok (.goto 4, 3) := by decide +kernel
theorem dX11_computeClosure_58 : decode cX11_computeClosure 58 = .ok (.iconst 0, 1) := by decide +kernel
theorem dX11_computeClosure_59 : decode cX11_computeClosure 59 = .ok (.iastore, 1) := by decide +kernel
theorem dX11_computeClosure_60 : decode cX11_computeClosure 60 = .ok (.iinc 3 1, 3) := by decide +kernel
theorem dX11_computeClosure_63 : decode cX11_computeClosure 63 = .ok (.goto (-25), 3) := by decide +kernel
theorem dX11_computeClosure_66 : decode cX11_computeClosure 66 = .ok (.aload_n 0, 1) := by decide +kernel
theorem dX11_computeClosure_67 : decode cX11_computeClosure 67 = .ok (.getfield 56, 3) := by decide +kernel
theorem dX11_computeClosure_70 : decode cX11_computeClosure 70 = .ok (.aload_n 0, 1) := by decide +kernel
theorem dX11_computeClosure_71 : decode cX11_computeClosure 71 = .ok (.invokevirtual 241, 3) := by decide +kernel
theorem dX11_computeClosure_74 : decode cX11_computeClosure 74 = .ok (.iconst 0, 1) := by decide +kernel
theorem dX11_computeClosure_75 : decode cX11_computeClosure 75 = .ok (.bastore, 1) := by decide +kernel
theorem dX11_computeClosure_76 : decode cX11_computeClosure 76 = .ok (.iconst 0, 1) := by decide +kernel
theorem dX11_computeClosure_77 : decode cX11_computeClosure 77 = .ok (.istore_n 3, 1) := by decide +kernel
theorem dX11_computeClosure_78 : decode cX11_computeClosure 78 = .ok (.iload_n 3, 1) := by decide +kernel
theorem dX11_computeClosure_79 : decode cX11_computeClosure 79 = .ok (.bipush (-2), 2) := by decide +kernel
theorem dX11_computeClosure_81 : decode cX11_computeClosure 81 = .ok (.if_icmp .eq 68, 3) := by decide +kernel
theorem dX11_computeClosure_84 : decode cX11_computeClosure 84 = .ok (.aload_n 0, 1) := by decide +kernel
theorem dX11_computeClosure_85 : decode cX11_computeClosure 85 = .ok (.getfield 56, 3) := by decide +kernel
theorem dX11_computeClosure_88 : decode cX11_computeClosure 88 = .ok (.iload_n 3, 1) := by decide +kernel
theorem dX11_computeClosure_89 : decode cX11_computeClosure 89 = .ok (.iconst 1, 1) := by decide +kernel
theorem dX11_computeClosure_90 : decode cX11_computeClosure 90 = .ok (.bastore, 1) := by decide +kernel
theorem dX11_computeClosure_91 : decode cX11_computeClosure 91 = .ok (.iconst 0, 1) := by decide +kernel
theorem dX11_computeClosure_92 : decode cX11_computeClosure 92 = .ok (.istore 4, 2) := by decide +kernel
theorem dX11_computeClosure_94 : decode cX11_computeClosure 94 = .ok (.iload 4, 2) := by decide +kernel
theorem dX11_computeClosure_96 : decode cX11_computeClosure 96 = .ok (.bipush 7, 2) := by decide +kernel
theorem dX11_computeClosure_98 : decode cX11_computeClosure 98 = .ok (.if_icmp .ge 28, 3) := by decide +kernel
theorem dX11_computeClosure_101 : decode cX11_computeClosure 101 = .ok (.aload_n 0, 1) := by decide +kernel
theorem dX11_computeClosure_102 : decode cX11_computeClosure 102 = .ok (.getfield 60, 3) := by decide +kernel
theorem dX11_computeClosure_105 : decode cX11_computeClosure 105 = .ok (.iload 4, 2) := by decide +kernel
theorem dX11_computeClosure_107 : decode cX11_computeClosure 107 = .ok (.aload_n 0, 1) := by decide +kernel
theorem dX11_computeClosure_108 : decode cX11_computeClosure 108 = .ok (.getfield 41, 3) := by decide +kernel
theorem dX11_computeClosure_111 : decode cX11_computeClosure 111 = .ok (.bipush 7, 2) := by decide +kernel
theorem dX11_computeClosure_113 : decode cX11_computeClosure 113 = .ok (.iload_n 3, 1) := by decide +kernel
theorem dX11_computeClosure_114 : decode cX11_computeClosure 114 = .ok (.imul, 1) := by decide +kernel
theorem dX11_computeClosure_115 : decode cX11_computeClosure 115 = .ok (.iload 4, 2) := by decide +kernel
theorem dX11_computeClosure_117 : decode cX11_computeClosure 117 = .ok (.iadd, 1) := by decide +kernel
theorem dX11_computeClosure_118 : decode cX11_computeClosure 118 = .ok (.iaload, 1) := by decide +kernel
theorem dX11_computeClosure_119 : decode cX11_computeClosure 119 = .ok (.iastore, 1) := by decide +kernel
theorem dX11_computeClosure_120 : decode cX11_computeClosure 120 = .ok (.iinc 4 1, 3) := by decide +kernel
theorem dX11_computeClosure_123 : decode cX11_computeClosure 123 = .ok (.goto (-29), 3) := by decide +kernel
theorem dX11_computeClosure_126 : decode cX11_computeClosure 126 = .ok (.aload_n 0, 1) := by decide +kernel
theorem dX11_computeClosure_127 : decode cX11_computeClosure 127 = .ok (.lload_n 1, 1) := by decide +kernel
theorem dX11_computeClosure_128 : decode cX11_computeClosure 128 = .ok (.invokevirtual 248, 3) := by decide +kernel
theorem dX11_computeClosure_131 : decode cX11_computeClosure 131 = .ok (.aload_n 0, 1) := by decide +kernel
theorem dX11_computeClosure_132 : decode cX11_computeClosure 132 = .ok (.getfield 220, 3) := by decide +kernel
theorem dX11_computeClosure_135 : decode cX11_computeClosure 135 = .ok (.ifCond .eq 6, 3) := by decide +kernel
theorem dX11_computeClosure_138 : decode cX11_computeClosure 138 = .ok (.bipush (-4), 2) := by decide +kernel
theorem dX11_computeClosure_140 : decode cX11_computeClosure 140 = .ok (.ireturn, 1) := by decide +kernel
theorem dX11_computeClosure_141 : decode cX11_computeClosure 141 = .ok (.aload_n 0, 1) := by decide +kernel
theorem dX11_computeClosure_142 : decode cX11_computeClosure 142 = .ok (.invokevirtual 251, 3) := by decide +kernel
theorem dX11_computeClosure_145 : decode cX11_computeClosure 145 = .ok (.istore_n 3, 1) := by decide +kernel
theorem dX11_computeClosure_146 : decode cX11_computeClosure 146 = .ok (.goto (-68), 3) := by decide +kernel
theorem dX11_computeClosure_149 : decode cX11_computeClosure 149 = .ok (.aload_n 0, 1) := by decide +kernel
theorem dX11_computeClosure_150 : decode cX11_computeClosure 150 = .ok (.aload_n 0, 1) := by decide +kernel
theorem dX11_computeClosure_151 : decode cX11_computeClosure 151 = .ok (.getfield 198, 3) := by decide +kernel
theorem dX11_computeClosure_154 : decode cX11_computeClosure 154 = .ok (.putfield 254, 3) := by decide +kernel
theorem dX11_computeClosure_157 : decode cX11_computeClosure 157 = .ok (.aload_n 0, 1) := by decide +kernel
theorem dX11_computeClosure_158 : decode cX11_computeClosure 158 = .ok (.aload_n 0, 1) := by decide +kernel
theorem dX11_computeClosure_159 : decode cX11_computeClosure 159 = .ok (.getfield 16, 3) := by decide +kernel
theorem dX11_computeClosure_162 : decode cX11_computeClosure 162 = .ok (.putfield 257, 3) := by decide +kernel
theorem dX11_computeClosure_165 : decode cX11_computeClosure 165 = .ok (.iconst 0, 1) := by decide +kernel
theorem dX11_computeClosure_166 : decode cX11_computeClosure 166 = .ok (.istore 4, 2) := by decide +kernel
theorem dX11_computeClosure_168 : decode cX11_computeClosure 168 = .ok (.iload 4, 2) := by decide +kernel
theorem dX11_computeClosure_170 : decode cX11_computeClosure 170 = .ok (.bipush 7, 2) := by decide +kernel
theorem dX11_computeClosure_172 : decode cX11_computeClosure 172 = .ok (.aload_n 0, 1) := by decide +kernel
theorem dX11_computeClosure_173 : decode cX11_computeClosure 173 = .ok (.getfield 198, 3) := by decide +kernel
theorem dX11_computeClosure_176 : decode cX11_computeClosure 176 = .ok (.imul, 1) := by decide +kernel
theorem dX11_computeClosure_177 : decode cX11_computeClosure 177 = .ok (.if_icmp .ge 23, 3) := by decide +kernel
theorem dX11_computeClosure_180 : decode cX11_computeClosure 180 = .ok (.aload_n 0, 1) := by decide +kernel
theorem dX11_computeClosure_181 : decode cX11_computeClosure 181 = .ok (.getfield 44, 3) := by decide +kernel
theorem dX11_computeClosure_184 : decode cX11_computeClosure 184 = .ok (.iload 4, 2) := by decide +kernel
theorem dX11_computeClosure_186 : decode cX11_computeClosure 186 = .ok (.aload_n 0, 1) := by decide +kernel
theorem dX11_computeClosure_187 : decode cX11_computeClosure 187 = .ok (.getfield 41, 3) := by decide +kernel
theorem dX11_computeClosure_190 : decode cX11_computeClosure 190 = .ok (.iload 4, 2) := by decide +kernel
theorem dX11_computeClosure_192 : decode cX11_computeClosure 192 = .ok (.iaload, 1) := by decide +kernel
theorem dX11_computeClosure_193 : decode cX11_computeClosure 193 = .ok (.iastore, 1) := by decide +kernel
theorem dX11_computeClosure_194 : decode cX11_computeClosure 194 = .ok (.iinc 4 1, 3) := by decide +kernel
theorem dX11_computeClosure_197 : decode cX11_computeClosure 197 = .ok (.goto (-29), 3) := by decide +kernel
theorem dX11_computeClosure_200 : decode cX11_computeClosure 200 = .ok (.aload_n 0, 1) := by decide +kernel
theorem dX11_computeClosure_201 : decode cX11_computeClosure 201 = .ok (.getfield 254, 3) := by decide +kernel
theorem dX11_computeClosure_204 : decode cX11_computeClosure 204 = .ok (.ireturn, 1) := by decide +kernel
set_option maxRecDepth 20000 in
theorem ggX11_template_X11_isIn : GoodIn wsX11_template wsX11_isIn := goodIn_r _ [7] rfl (by decide +kernel)
set_option maxRecDepth 20000 in
theorem gX11_template_X11_isIn : GoodIn wsX11_template (va_wsS RX11 85 yX11_isIn wsX11_isIn) := goodIn_app (goodIn_r _ [4, 5, 6] rfl (by decide +kernel)) ggX11_template_X11_isIn
theorem dX11_template_0 : decode cX11_template 0 = .ok (.iload_n 1, 1) := by decide +kernel
theorem dX11_template_1 : decode cX11_template 1 = .ok (.iconst 0, 1) := by decide +kernel
theorem dX11_template_2 : decode cX11_template 2 = .ok (.aload_n 0, 1) := by decide +kernel
theorem dX11_template_3 : decode cX11_template 3 = .ok (.getfield 254, 3) := by decide +kernel
theorem dX11_template_6 : decode cX11_template 6 = .ok (.iconst 1, 1) := by decide +kernel
theorem dX11_template_7 : decode cX11_template 7 = .ok (.isub, 1) := by decide +kernel
theorem dX11_template_8 : decode cX11_template 8 = .ok (.invokestatic 85, 3) := by decide +kernel
theorem dX11_template_11 : decode cX11_template 11 = .ok (.ifCond .ne 6, 3) := by decide +kernel
theorem dX11_template_14 : decode cX11_template 14 = .ok (.bipush (-2), 2) := by decide +kernel
theorem dX11_template_16 : decode cX11_template 16 = .ok (.ireturn, 1) := by decide +kernel
theorem dX11_template_17 : decode cX11_template 17 = .ok (.iload_n 2, 1) := by decide +kernel
theorem dX11_template_18 : decode cX11_template 18 = .ok (.iconst 0, 1) := by decide +kernel
theorem dX11_template_19 : decode cX11_template 19 = .ok (.iconst 2, 1) := by decide +kernel
theorem dX11_template_20 : decode cX11_template 20 = .ok (.aload_n 0, 1) := by decide +kernel
theorem dX11_template_21 : decode cX11_template 21 = .ok (.getfield 257, 3) := by decide +kernel
theorem dX11_template_24 : decode cX11_template 24 = .ok (.iadd, 1) := by decide +kernel
theorem dX11_template_25 : decode cX11_template 25 = .ok (.invokestatic 85, 3) := by decide +kernel
theorem dX11_template_28 : decode cX11_template 28 = .ok (.ifCond .eq 20, 3) := by decide +kernel
theorem dX11_template_31 : decode cX11_template 31 = .ok (.aload_n 0, 1) := by decide +kernel
theorem dX11_template_32 : decode cX11_template 32 = .ok (.getfield 44, 3) := by decide +kernel
theorem dX11_template_35 : decode cX11_template 35 = .ok (.bipush 7, 2) := by decide +kernel
theorem dX11_template_37 : decode cX11_template 37 = .ok (.iload_n 1, 1) := by decide +kernel
theorem dX11_template_38 : decode cX11_template 38 = .ok (.imul, 1) := by decide +kernel
theorem dX11_template_39 : decode cX11_template 39 = .ok (.iload_n 2, 1) := by decide +kernel
theorem dX11_template_40 : decode cX11_template 40 = .ok (.iadd, 1) := by decide +kernel
theorem dX11_template_41 : decode cX11_template 41 = .ok (.iaload, 1) := by decide +kernel
theorem dX11_template_42 : decode cX11_template 42 = .ok (.bipush 10, 2) := by decide +kernel
theorem dX11_template_44 : decode cX11_template 44 = .ok (.iadd, 1) := by decide +kernel
theorem dX11_template_45 : decode cX11_template 45 = .ok (.goto 4, 3) := by decide +kernel
theorem dX11_template_48 : decode cX11_template 48 = .ok (.iconst (-1), 1) := by decide +kernel
theorem dX11_template_49 : decode cX11_template 49 = .ok (.ireturn, 1) := by decide +kernel
set_option maxRecDepth 20000 in
theorem ggX11_occurs_X11_count : GoodIn wsX11_occurs wsX11_count := goodIn_r _ [9, 3, 10, 11, 12, 13, 14, 15, 16, 17, 18, 19, 20, 21, 22, 23, 24, 25, 26, 27, 28, 29, 30, 31, 32, 33, 34, 35, 36, 37, 38, 39, 40, 41, 42, 43, 44, 45] rfl (by decide +kernel)
set_option maxRecDepth 20000 in
theorem gX11_occurs_X11_count : GoodIn wsX11_occurs (wsV RX11 121 RX11 yX11_count wsX11_count) := goodIn_app (goodIn_r _ [5, 6, 7, 8] rfl (by decide +kernel)) ggX11_occurs_X11_count
theorem dX11_occurs_0 : decode cX11_occurs 0 = .ok (.aload_n 0, 1) := by decide +kernel
theorem dX11_occurs_1 : decode cX11_occurs 1 = .ok (.getfield 44, 3) := by decide +kernel
theorem dX11_occurs_4 : decode cX11_occurs 4 = .ok (.bipush 7, 2) := by decide +kernel
theorem dX11_occurs_6 : decode cX11_occurs 6 = .ok (.iload_n 1, 1) := by decide +kernel
theorem dX11_occurs_7 : decode cX11_occurs 7 = .ok (.imul, 1) := by decide +kernel
theorem dX11_occurs_8 : decode cX11_occurs 8 = .ok (.iaload, 1) := by decide +kernel
theorem dX11_occurs_9 : decode cX11_occurs 9 = .ok (.ifCond .ge 7, 3) := by decide +kernel
theorem dX11_occurs_12 : decode cX11_occurs 12 = .ok (.iconst 0, 1) := by decide +kernel
theorem dX11_occurs_13 : decode cX11_occurs 13 = .ok (.goto 4, 3) := by decide +kernel
theorem dX11_occurs_16 : decode cX11_occurs 16 = .ok (.iconst 1, 1) := by decide +kernel
theorem dX11_occurs_17 : decode cX11_occurs 17 = .ok (.istore 5, 2) := by decide +kernel
theorem dX11_occurs_19 : decode cX11_occurs 19 = .ok (.aload_n 0, 1) := by decide +kernel
theorem dX11_occurs_20 : decode cX11_occurs 20 = .ok (.getfield 44, 3) := by decide +kernel
theorem dX11_occurs_23 : decode cX11_occurs 23 = .ok (.bipush 7, 2) := by decide +kernel
theorem dX11_occurs_25 : decode cX11_occurs 25 = .ok (.iload_n 1, 1) := by decide +kernel
theorem dX11_occurs_26 : decode cX11_occurs 26 = .ok (.imul, 1) := by decide +kernel
theorem dX11_occurs_27 : decode cX11_occurs 27 = .ok (.iconst 1, 1) := by decide +kernel
theorem dX11_occurs_28 : decode cX11_occurs 28 = .ok (.iadd, 1) := by decide +kernel
theorem dX11_occurs_29 : decode cX11_occurs 29 = .ok (.iaload, 1) := by decide +kernel
theorem dX11_occurs_30 : decode cX11_occurs 30 = .ok (.ifCond .ge 7, 3) := by decide +kernel
theorem dX11_occurs_33 : decode cX11_occurs 33 = .ok (.iconst 0, 1) := by decide +kernel
theorem dX11_occurs_34 : decode cX11_occurs 34 = .ok (.goto 4, 3) := by decide +kernel
theorem dX11_occurs_37 : decode cX11_occurs 37 = .ok (.iconst 1, 1) := by decide +kernel
theorem dX11_occurs_38 : decode cX11_occurs 38 = .ok (.istore 6, 2) := by decide +kernel
theorem dX11_occurs_40 : decode cX11_occurs 40 = .ok (.aload_n 0, 1) := by decide +kernel
theorem dX11_occurs_41 : decode cX11_occurs 41 = .ok (.getfield 44, 3) := by decide +kernel
theorem dX11_occurs_44 : decode cX11_occurs 44 = .ok (.bipush 7, 2) := by decide +kernel
theorem dX11_occurs_46 : decode cX11_occurs 46 = .ok (.iload_n 1, 1) := by decide +kernel
theorem dX11_occurs_47 : decode cX11_occurs 47 = .ok (.imul, 1) := by decide +kernel
theorem dX11_occurs_48 : decode cX11_occurs 48 = .ok (.iconst 2, 1) := by decide +kernel
theorem dX11_occurs_49 : decode cX11_occurs 49 = .ok (.iadd, 1) := by decide +kernel
theorem dX11_occurs_50 : decode cX11_occurs 50 = .ok (.iaload, 1) := by decide +kernel
theorem dX11_occurs_51 : decode cX11_occurs 51 = .ok (.ifCond .ge 7, 3) := by decide +kernel
theorem dX11_occurs_54 : decode cX11_occurs 54 = .ok (.iconst 0, 1) := by decide +kernel
theorem dX11_occurs_55 : decode cX11_occurs 55 = .ok (.goto 4, 3) := by decide +kernel
theorem dX11_occurs_58 : decode cX11_occurs 58 = .ok (.iconst 1, 1) := by decide +kernel
theorem dX11_occurs_59 : decode cX11_occurs 59 = .ok (.istore 7, 2) := by decide +kernel
theorem dX11_occurs_61 : decode cX11_occurs 61 = .ok (.iload 5, 2) := by decide +kernel
theorem dX11_occurs_63 : decode cX11_occurs 63 = .ok (.iload_n 3, 1) := by decide +kernel
theorem dX11_occurs_64 : decode cX11_occurs 64 = .ok (.iadd, 1) := by decide +kernel
theorem dX11_occurs_65 : decode cX11_occurs 65 = .ok (.iload 6, 2) := by decide +kernel
theorem dX11_occurs_67 : decode cX11_occurs 67 = .ok (.iadd, 1) := by decide +kernel
theorem dX11_occurs_68 : decode cX11_occurs 68 = .ok (.iload 4, 2) := by decide +kernel
theorem dX11_occurs_70 : decode cX11_occurs 70 = .ok (.iadd, 1) := by decide +kernel
theorem dX11_occurs_71 : decode cX11_occurs 71 = .ok (.iload 7, 2) := by decide +kernel
theorem dX11_occurs_73 : decode cX11_occurs 73 = .ok (.iadd, 1) := by decide +kernel
theorem dX11_occurs_74 : decode cX11_occurs 74 = .ok (.istore 8, 2) := by decide +kernel
theorem dX11_occurs_76 : decode cX11_occurs 76 = .ok (.iload 8, 2) := by decide +kernel
theorem dX11_occurs_78 : decode cX11_occurs 78 = .ok (.ifCond .eq 14, 3) := by decide +kernel
theorem dX11_occurs_81 : decode cX11_occurs 81 = .ok (.iload_n 2, 1) := by decide +kernel
theorem dX11_occurs_82 : decode cX11_occurs 82 = .ok (.iload 8, 2) := by decide +kernel
theorem dX11_occurs_84 : decode cX11_occurs 84 = .ok (.iadd, 1) := by decide +kernel
theorem dX11_occurs_85 : decode cX11_occurs 85 = .ok (.aload_n 0, 1) := by decide +kernel
theorem dX11_occurs_86 : decode cX11_occurs 86 = .ok (.getfield 118, 3) := by decide +kernel
theorem dX11_occurs_89 : decode cX11_occurs 89 = .ok (.if_icmp .le 5, 3) := by decide +kernel
theorem dX11_occurs_92 : decode cX11_occurs 92 = .ok (.iconst 0, 1) := by decide +kernel
theorem dX11_occurs_93 : decode cX11_occurs 93 = .ok (.ireturn, 1) := by decide +kernel
theorem dX11_occurs_94 : decode cX11_occurs 94 = .ok (.iload_n 2, 1) := by decide +kernel
theorem dX11_occurs_95 : decode cX11_occurs 95 = .ok (.iload 5, 2) := by decide +kernel
theorem dX11_occurs_97 : decode cX11_occurs 97 = .ok (.iadd, 1) := by decide +kernel
theorem dX11_occurs_98 : decode cX11_occurs 98 = .ok (.iload_n 3, 1) := by decide +kernel
theorem dX11_occurs_99 : decode cX11_occurs 99 = .ok (.iadd, 1) := by decide +kernel
theorem dX11_occurs_100 : decode cX11_occurs 100 = .ok (.istore 9, 2) := by decide +kernel
theorem dX11_occurs_102 : decode cX11_occurs 102 = .ok (.iload 5, 2) := by decide +kernel
theorem dX11_occurs_104 : decode cX11_occurs 104 = .ok (.ifCond .eq 21, 3) := by decide +kernel
theorem dX11_occurs_107 : decode cX11_occurs 107 = .ok (.aload_n 0, 1) := by decide +kernel
theorem dX11_occurs_108 : decode cX11_occurs 108 = .ok (.getfield 38, 3) := by decide +kernel
theorem dX11_occurs_111 : decode cX11_occurs 111 = .ok (.iload_n 2, 1) := by decide +kernel
theorem dX11_occurs_112 : decode cX11_occurs 112 = .ok (.iaload, 1) := by decide +kernel
theorem dX11_occurs_113 : decode cX11_occurs 113 = .ok (.aload_n 0, 1) := by decide +kernel
theorem dX11_occurs_114 : decode cX11_occurs 114 = .ok (.getfield 44, 3) := by decide +kernel
theorem dX11_occurs_117 : decode cX11_occurs 117 = .ok (.bipush 7, 2) := by decide +kernel
theorem dX11_occurs_119 : decode cX11_occurs 119 = .ok (.iload_n 1, 1) := by decide +kernel
theorem dX11_occurs_120 : decode cX11_occurs 120 = .ok (.imul, 1) := by decide +kernel
theorem dX11_occurs_121 : decode cX11_occurs 121 = .ok (.iaload, 1) := by decide +kernel
theorem dX11_occurs_122 : decode cX11_occurs 122 = .ok (.if_icmp .ne 63, 3) := by decide +kernel
theorem dX11_occurs_125 : decode cX11_occurs 125 = .ok (.iload 6, 2) := by decide +kernel
theorem dX11_occurs_127 : decode cX11_occurs 127 = .ok (.ifCond .eq 24, 3) := by decide +kernel
theorem dX11_occurs_130 : decode cX11_occurs 130 = .ok (.aload_n 0, 1) := by decide +kernel
theorem dX11_occurs_131 : decode cX11_occurs 131 = .ok (.getfield 38, 3) := by decide +kernel
theorem dX11_occurs_134 : decode cX11_occurs 134 = .ok (.iload 9, 2) := by decide +kernel
theorem dX11_occurs_136 : decode cX11_occurs 136 = .ok (.iaload, 1) := by decide +kernel
theorem dX11_occurs_137 : decode cX11_occurs 137 = .ok (.aload_n 0, 1) := by decide +kernel
theorem dX11_occurs_138 : decode cX11_occurs 138 = .ok (.getfield 44, 3) := by decide +kernel
theorem dX11_occurs_141 : decode cX11_occurs 141 = .ok (.bipush 7, 2) := by decide +kernel
theorem dX11_occurs_143 : decode cX11_occurs 143 = .ok (.iload_n 1, 1) := by decide +kernel
theorem dX11_occurs_144 : decode cX11_occurs 144 = .ok (.imul, 1) := by decide +kernel
theorem dX11_occurs_145 : decode cX11_occurs 145 = .ok (.iconst 1, 1) := by decide +kernel
theorem dX11_occurs_146 : decode cX11_occurs 146 = .ok (.iadd, 1) := by decide +kernel
theorem dX11_occurs_147 : decode cX11_occurs 147 = .ok (.iaload, 1) := by decide +kernel
theorem dX11_occurs_148 : decode cX11_occurs 148 = .ok (.if_icmp .ne 37, 3) := by decide +kernel
theorem dX11_occurs_151 : decode cX11_occurs 151 = .ok (.iload 7, 2) := by decide +kernel
theorem dX11_occurs_153 : decode cX11_occurs 153 = .ok (.ifCond .eq 28, 3) := by decide +kernel
theorem dX11_occurs_156 : decode cX11_occurs 156 = .ok (.aload_n 0, 1) := by decide +kernel
theorem dX11_occurs_157 : decode cX11_occurs 157 = .ok (.getfield 38, 3) := by decide +kernel
theorem dX11_occurs_160 : decode cX11_occurs 160 = .ok (.iload_n 2, 1) := by decide +kernel
theorem dX11_occurs_161 : decode cX11_occurs 161 = .ok (.iload 8, 2) := by decide +kernel
theorem dX11_occurs_163 : decode cX11_occurs 163 = .ok (.iadd, 1) := by decide +kernel
theorem dX11_occurs_164 : decode cX11_occurs 164 = .ok (.iconst 1, 1) := by decide +kernel
theorem dX11_occurs_165 : decode cX11_occurs 165 = .ok (.isub, 1) := by decide +kernel
theorem dX11_occurs_166 : decode cX11_occurs 166 = .ok (.iaload, 1) := by decide +kernel
theorem dX11_occurs_167 : decode cX11_occurs 167 = .ok (.aload_n 0, 1) := by decide +kernel
theorem dX11_occurs_168 : decode cX11_occurs 168 = .ok (.getfield 44, 3) := by decide +kernel
theorem dX11_occurs_171 : decode cX11_occurs 171 = .ok (.bipush 7, 2) := by decide +kernel
theorem dX11_occurs_173 : decode cX11_occurs 173 = .ok (.iload_n 1, 1) := by decide +kernel
theorem dX11_occurs_174 : decode cX11_occurs 174 = .ok (.imul, 1) := by decide +kernel
theorem dX11_occurs_175 : decode cX11_occurs 175 = .ok (.iconst 2, 1) := by decide +kernel
theorem dX11_occurs_176 : decode cX11_occurs 176 = .ok (.iadd, 1) := by decide +kernel
theorem dX11_occurs_177 : decode cX11_occurs 177 = .ok (.iaload, 1) := by decide +kernel
theorem dX11_occurs_178 : decode cX11_occurs 178 = .ok (.if_icmp .ne 7, 3) := by decide +kernel
theorem dX11_occurs_181 : decode cX11_occurs 181 = .ok (.iconst 1, 1) := by decide +kernel
theorem dX11_occurs_182 : decode cX11_occurs 182 = .ok (.goto 4, 3) := by decide +kernel
theorem dX11_occurs_185 : decode cX11_occurs 185 = .ok (.iconst 0, 1) := by decide +kernel
theorem dX11_occurs_186 : decode cX11_occurs 186 = .ok (.istore 10, 2) := by decide +kernel
theorem dX11_occurs_188 : decode cX11_occurs 188 = .ok (.iconst 0, 1) := by decide +kernel
theorem dX11_occurs_189 : decode cX11_occurs 189 = .ok (.istore 11, 2) := by decide +kernel
theorem dX11_occurs_191 : decode cX11_occurs 191 = .ok (.iload 11, 2) := by decide +kernel
theorem dX11_occurs_193 : decode cX11_occurs 193 = .ok (.aload_n 0, 1) := by decide +kernel
theorem dX11_occurs_194 : decode cX11_occurs 194 = .ok (.getfield 16, 3) := by decide +kernel
theorem dX11_occurs_197 : decode cX11_occurs 197 = .ok (.if_icmp .ge 63, 3) := by decide +kernel
theorem dX11_occurs_200 : decode cX11_occurs 200 = .ok (.iload 10, 2) := by decide +kernel
theorem dX11_occurs_202 : decode cX11_occurs 202 = .ok (.ifCond .eq 58, 3) := by decide +kernel
theorem dX11_occurs_205 : decode cX11_occurs 205 = .ok (.aload_n 0, 1) := by decide +kernel
theorem dX11_occurs_206 : decode cX11_occurs 206 = .ok (.iload 9, 2) := by decide +kernel
theorem dX11_occurs_208 : decode cX11_occurs 208 = .ok (.iload 6, 2) := by decide +kernel
theorem dX11_occurs_210 : decode cX11_occurs 210 = .ok (.iadd, 1) := by decide +kernel
theorem dX11_occurs_211 : decode cX11_occurs 211 = .ok (.iload 4, 2) := by decide +kernel
theorem dX11_occurs_213 : decode cX11_occurs 213 = .ok (.iload 11, 2) := by decide +kernel
theorem dX11_occurs_215 : decode cX11_occurs 215 = .ok (.invokevirtual 121, 3) := by decide +kernel
theorem dX11_occurs_218 : decode cX11_occurs 218 = .ok (.aload_n 0, 1) := by decide +kernel
theorem dX11_occurs_219 : decode cX11_occurs 219 = .ok (.iload_n 2, 1) := by decide +kernel
theorem dX11_occurs_220 : decode cX11_occurs 220 = .ok (.iload 5, 2) := by decide +kernel
theorem dX11_occurs_222 : decode cX11_occurs 222 = .ok (.iadd, 1) := by decide +kernel
theorem dX11_occurs_223 : decode cX11_occurs 223 = .ok (.iload_n 3, 1) := by decide +kernel
theorem dX11_occurs_224 : decode cX11_occurs 224 = .ok (.iload 11, 2) := by decide +kernel
theorem dX11_occurs_226 : decode cX11_occurs 226 = .ok (.invokevirtual 121, 3) := by decide +kernel
theorem dX11_occurs_229 : decode cX11_occurs 229 = .ok (.isub, 1) := by decide +kernel
theorem dX11_occurs_230 : decode cX11_occurs 230 = .ok (.aload_n 0, 1) := by decide +kernel
theorem dX11_occurs_231 : decode cX11_occurs 231 = .ok (.getfield 44, 3) := by decide +kernel
theorem dX11_occurs_234 : decode cX11_occurs 234 = .ok (.bipush 7, 2) := by decide +kernel
theorem dX11_occurs_236 : decode cX11_occurs 236 = .ok (.iload_n 1, 1) := by decide +kernel
theorem dX11_occurs_237 : decode cX11_occurs 237 = .ok (.imul, 1) := by decide +kernel
theorem dX11_occurs_238 : decode cX11_occurs 238 = .ok (.iconst 3, 1) := by decide +kernel
theorem dX11_occurs_239 : decode cX11_occurs 239 = .ok (.iadd, 1) := by decide +kernel
theorem dX11_occurs_240 : decode cX11_occurs 240 = .ok (.iload 11, 2) := by decide +kernel
theorem dX11_occurs_242 : decode cX11_occurs 242 = .ok (.iadd, 1) := by decide +kernel
theorem dX11_occurs_243 : decode cX11_occurs 243 = .ok (.iaload, 1) := by decide +kernel
theorem dX11_occurs_244 : decode cX11_occurs 244 = .ok (.if_icmp .ne 7, 3) := by decide +kernel
theorem dX11_occurs_247 : decode cX11_occurs 247 = .ok (.iconst 1, 1) := by decide +kernel
theorem dX11_occurs_248 : decode cX11_occurs 248 = .ok (.goto 4, 3) := by decide +kernel
theorem dX11_occurs_251 : decode cX11_occurs 251 = .ok (.iconst 0, 1) := by decide +kernel
theorem dX11_occurs_252 : decode cX11_occurs 252 = .ok (.istore 10, 2) := by decide +kernel
theorem dX11_occurs_254 : decode cX11_occurs 254 = .ok (.iinc 11 1, 3) := by decide +kernel
theorem dX11_occurs_257 : decode cX11_occurs 257 = .ok (.goto (-66), 3) := by decide +kernel
theorem dX11_occurs_260 : decode cX11_occurs 260 = .ok (.iload 10, 2) := by decide +kernel
theorem dX11_occurs_262 : decode cX11_occurs 262 = .ok (.ireturn, 1) := by decide +kernel
set_option maxRecDepth 20000 in
theorem ggX11_occurrence_X11_isWord : GoodIn wsX11_occurrence wsX11_isWord := goodIn_r _ [8, 9, 10, 7, 11] rfl (by decide +kernel)
set_option maxRecDepth 20000 in
theorem gX11_occurrence_X11_isWord : GoodIn wsX11_occurrence (va_wsS RX11 115 yX11_isWord wsX11_isWord) := goodIn_app (goodIn_r _ [5, 6, 7] rfl (by decide +kernel)) ggX11_occurrence_X11_isWord
set_option maxRecDepth 20000 in
theorem ggX11_occurrence_X11_isIn : GoodIn wsX11_occurrence wsX11_isIn := goodIn_r _ [11] rfl (by decide +kernel)
set_option maxRecDepth 20000 in
theorem gX11_occurrence_X11_isIn : GoodIn wsX11_occurrence (va_wsS RX11 85 yX11_isIn wsX11_isIn) := goodIn_app (goodIn_r _ [9, 10, 7] rfl (by decide +kernel)) ggX11_occurrence_X11_isIn
set_option maxRecDepth 20000 in
theorem ggX11_occurrence_X11_take : GoodIn wsX11_occurrence wsX11_take := goodIn_r _ [15, 16, 4, 17, 18, 28, 29, 30, 31, 32, 33, 34, 35, 36, 37, 38, 39, 40, 41, 42, 43, 44, 45, 46, 47, 48, 49, 50, 51, 52, 53, 54, 55, 56, 57, 58, 59, 60, 61, 62, 63] rfl (by decide +kernel)
set_option maxRecDepth 20000 in
theorem gX11_occurrence_X11_take : GoodIn wsX11_occurrence (wsV RX11 151 RX11 yX11_take wsX11_take) := goodIn_app (goodIn_r _ [12, 13, 14, 7] rfl (by decide +kernel)) ggX11_occurrence_X11_take
set_option maxRecDepth 20000 in
theorem ggX11_occurrence_X11_occurs : GoodIn wsX11_occurrence wsX11_occurs := goodIn_r _ [22, 23, 4, 17, 2, 24, 25, 26, 7, 27, 28, 29, 30, 31, 32, 33, 34, 35, 36, 37, 38, 39, 40, 41, 42, 43, 44, 45, 46, 47, 48, 49, 50, 51, 52, 53, 54, 55, 56, 57, 58, 59, 60, 61, 62, 63] rfl (by decide +kernel)
set_option maxRecDepth 20000 in
theorem gX11_occurrence_X11_occurs : GoodIn wsX11_occurrence (wsV RX11 260 RX11 yX11_occurs wsX11_occurs) := goodIn_app (goodIn_r _ [19, 20, 21, 7] rfl (by decide +kernel)) ggX11_occurrence_X11_occurs
theorem dX11_occurrence_0 : decode cX11_occurrence 0 = .ok (.iload_n 1, 1) := by decide +kernel
theorem dX11_occurrence_1 : decode cX11_occurrence 1 = .ok (.invokestatic 115, 3) := by decide +kernel
theorem dX11_occurrence_4 : decode cX11_occurrence 4 = .ok (.ifCond .ne 5, 3) := by decide +kernel
theorem dX11_occurrence_7 : decode cX11_occurrence 7 = .ok (.iconst (-1), 1) := by decide +kernel
theorem dX11_occurrence_8 : decode cX11_occurrence 8 = .ok (.ireturn, 1) := by decide +kernel
theorem dX11_occurrence_9 : decode cX11_occurrence 9 = .ok (.iload_n 2, 1) := by decide +kernel
theorem dX11_occurrence_10 : decode cX11_occurrence 10 = .ok (.iconst 0, 1) := by decide +kernel
theorem dX11_occurrence_11 : decode cX11_occurrence 11 = .ok (.aload_n 0, 1) := by decide +kernel
theorem dX11_occurrence_12 : decode cX11_occurrence 12 = .ok (.getfield 254, 3) := by decide +kernel
theorem dX11_occurrence_15 : decode cX11_occurrence 15 = .ok (.iconst 1, 1) := by decide +kernel
theorem dX11_occurrence_16 : decode cX11_occurrence 16 = .ok (.isub, 1) := by decide +kernel
theorem dX11_occurrence_17 : decode cX11_occurrence 17 = .ok (.invokestatic 85, 3) := by decide +kernel
theorem dX11_occurrence_20 : decode cX11_occurrence 20 = .ok (.ifCond .eq 14, 3) := by decide +kernel
theorem dX11_occurrence_23 : decode cX11_occurrence 23 = .ok (.aload_n 0, 1) := by decide +kernel
theorem dX11_occurrence_24 : decode cX11_occurrence 24 = .ok (.getfield 16, 3) := by decide +kernel
theorem dX11_occurrence_27 : decode cX11_occurrence 27 = .ok (.aload_n 0, 1) := by decide +kernel
theorem dX11_occurrence_28 : decode cX11_occurrence 28 = .ok (.getfield 257, 3) := by decide +kernel
theorem dX11_occurrence_31 : decode cX11_occurrence 31 = .ok (.if_icmp .eq 6, 3) := by decide +kernel
theorem dX11_occurrence_34 : decode cX11_occurrence 34 = .ok (.bipush (-2), 2) := by decide +kernel
theorem dX11_occurrence_36 : decode cX11_occurrence 36 = .ok (.ireturn, 1) := by decide +kernel
theorem dX11_occurrence_37 : decode cX11_occurrence 37 = .ok (.aload_n 0, 1) := by decide +kernel
theorem dX11_occurrence_38 : decode cX11_occurrence 38 = .ok (.iload_n 1, 1) := by decide +kernel
theorem dX11_occurrence_39 : decode cX11_occurrence 39 = .ok (.invokevirtual 151, 3) := by decide +kernel
theorem dX11_occurrence_42 : decode cX11_occurrence 42 = .ok (.iconst 0, 1) := by decide +kernel
theorem dX11_occurrence_43 : decode cX11_occurrence 43 = .ok (.istore_n 3, 1) := by decide +kernel
theorem dX11_occurrence_44 : decode cX11_occurrence 44 = .ok (.iload_n 3, 1) := by decide +kernel
theorem dX11_occurrence_45 : decode cX11_occurrence 45 = .ok (.aload_n 0, 1) := by decide +kernel
theorem dX11_occurrence_46 : decode cX11_occurrence 46 = .ok (.getfield 118, 3) := by decide +kernel
theorem dX11_occurrence_49 : decode cX11_occurrence 49 = .ok (.if_icmp .ge 80, 3) := by decide +kernel
theorem dX11_occurrence_52 : decode cX11_occurrence 52 = .ok (.iconst 0, 1) := by decide +kernel
theorem dX11_occurrence_53 : decode cX11_occurrence 53 = .ok (.istore 4, 2) := by decide +kernel
theorem dX11_occurrence_55 : decode cX11_occurrence 55 = .ok (.iload 4, 2) := by decide +kernel
theorem dX11_occurrence_57 : decode cX11_occurrence 57 = .ok (.aload_n 0, 1) := by decide +kernel
theorem dX11_occurrence_58 : decode cX11_occurrence 58 = .ok (.getfield 118, 3) := by decide +kernel
theorem dX11_occurrence_61 : decode cX11_occurrence 61 = .ok (.iload_n 3, 1) := by decide +kernel
theorem dX11_occurrence_62 : decode cX11_occurrence 62 = .ok (.isub, 1) := by decide +kernel
theorem dX11_occurrence_63 : decode cX11_occurrence 63 = .ok (.if_icmp .gt 60, 3) := by decide +kernel
theorem dX11_occurrence_66 : decode cX11_occurrence 66 = .ok (.iconst 0, 1) := by decide +kernel
theorem dX11_occurrence_67 : decode cX11_occurrence 67 = .ok (.istore 5, 2) := by decide +kernel
theorem dX11_occurrence_69 : decode cX11_occurrence 69 = .ok (.iload 5, 2) := by decide +kernel
theorem dX11_occurrence_71 : decode cX11_occurrence 71 = .ok (.aload_n 0, 1) := by decide +kernel
theorem dX11_occurrence_72 : decode cX11_occurrence 72 = .ok (.getfield 118, 3) := by decide +kernel
theorem dX11_occurrence_75 : decode cX11_occurrence 75 = .ok (.iload_n 3, 1) := by decide +kernel
theorem dX11_occurrence_76 : decode cX11_occurrence 76 = .ok (.isub, 1) := by decide +kernel
theorem dX11_occurrence_77 : decode cX11_occurrence 77 = .ok (.iload 4, 2) := by decide +kernel
theorem dX11_occurrence_79 : decode cX11_occurrence 79 = .ok (.isub, 1) := by decide +kernel
theorem dX11_occurrence_80 : decode cX11_occurrence 80 = .ok (.if_icmp .gt 37, 3) := by decide +kernel
theorem dX11_occurrence_83 : decode cX11_occurrence 83 = .ok (.aload_n 0, 1) := by decide +kernel
theorem dX11_occurrence_84 : decode cX11_occurrence 84 = .ok (.iload_n 2, 1) := by decide +kernel
theorem dX11_occurrence_85 : decode cX11_occurrence 85 = .ok (.iload_n 3, 1) := by decide +kernel
theorem dX11_occurrence_86 : decode cX11_occurrence 86 = .ok (.iload 4, 2) := by decide +kernel
theorem dX11_occurrence_88 : decode cX11_occurrence 88 = .ok (.iload 5, 2) := by decide +kernel
theorem dX11_occurrence_90 : decode cX11_occurrence 90 = .ok (.invokevirtual 260, 3) := by decide +kernel
theorem dX11_occurrence_93 : decode cX11_occurrence 93 = .ok (.ifCond .eq 18, 3) := by decide +kernel
theorem dX11_occurrence_96 : decode cX11_occurrence 96 = .ok (.sipush 10000, 3) := by decide +kernel
theorem dX11_occurrence_99 : decode cX11_occurrence 99 = .ok (.iload_n 3, 1) := by decide +kernel
theorem dX11_occurrence_100 : decode cX11_occurrence 100 = .ok (.imul, 1) := by decide +kernel
theorem dX11_occurrence_101 : decode cX11_occurrence 101 = .ok (.bipush 100, 2) := by decide +kernel
theorem dX11_occurrence_103 : decode cX11_occurrence 103 = .ok (.iload 4, 2) := by decide +kernel
theorem dX11_occurrence_105 : decode cX11_occurrence 105 = .ok (.imul, 1) := by decide +kernel
theorem dX11_occurrence_106 : decode cX11_occurrence 106 = .ok (.iadd, 1) := by decide +kernel
theorem dX11_occurrence_107 : decode cX11_occurrence 107 = .ok (.iload 5, 2) := by decide +kernel
theorem dX11_occurrence_109 : decode cX11_occurrence 109 = .ok (.iadd, 1) := by decide +kernel
theorem dX11_occurrence_110 : decode cX11_occurrence 110 = .ok (.ireturn, 1) := by decide +kernel
theorem dX11_occurrence_111 : decode cX11_occurrence 111 = .ok (.iinc 5 1, 3) := by decide +kernel
theorem dX11_occurrence_114 : decode cX11_occurrence 114 = .ok (.goto (-45), 3) := by decide +kernel
theorem dX11_occurrence_117 : decode cX11_occurrence 117 = .ok (.iinc 4 1, 3) := by decide +kernel
theorem dX11_occurrence_120 : decode cX11_occurrence 120 = .ok (.goto (-65), 3) := by decide +kernel
theorem dX11_occurrence_123 : decode cX11_occurrence 123 = .ok (.iinc 3 1, 3) := by decide +kernel
theorem dX11_occurrence_126 : decode cX11_occurrence 126 = .ok (.goto (-82), 3) := by decide +kernel
theorem dX11_occurrence_129 : decode cX11_occurrence 129 = .ok (.bipush (-2), 2) := by decide +kernel
theorem dX11_occurrence_131 : decode cX11_occurrence 131 = .ok (.ireturn, 1) := by decide +kernel
set_option maxRecDepth 20000 in
theorem ggX11_newArray_X11_isWord : GoodIn wsX11_newArray wsX11_isWord := goodIn_r _ [6, 7, 8, 5, 9] rfl (by decide +kernel)
set_option maxRecDepth 20000 in
theorem gX11_newArray_X11_isWord : GoodIn wsX11_newArray (va_wsS RX11 115 yX11_isWord wsX11_isWord) := goodIn_app (goodIn_r _ [3, 4, 5] rfl (by decide +kernel)) ggX11_newArray_X11_isWord
theorem dX11_newArray_0 : decode cX11_newArray 0 = .ok (.iload_n 1, 1) := by decide +kernel
theorem dX11_newArray_1 : decode cX11_newArray 1 = .ok (.invokestatic 115, 3) := by decide +kernel
theorem dX11_newArray_4 : decode cX11_newArray 4 = .ok (.ifCond .eq 9, 3) := by decide +kernel
theorem dX11_newArray_7 : decode cX11_newArray 7 = .ok (.iload_n 2, 1) := by decide +kernel
theorem dX11_newArray_8 : decode cX11_newArray 8 = .ok (.bipush 41, 2) := by decide +kernel
theorem dX11_newArray_10 : decode cX11_newArray 10 = .ok (.if_icmp .le 5, 3) := by decide +kernel
theorem dX11_newArray_13 : decode cX11_newArray 13 = .ok (.iconst (-1), 1) := by decide +kernel
theorem dX11_newArray_14 : decode cX11_newArray 14 = .ok (.ireturn, 1) := by decide +kernel
theorem dX11_newArray_15 : decode cX11_newArray 15 = .ok (.iload_n 2, 1) := by decide +kernel
theorem dX11_newArray_16 : decode cX11_newArray 16 = .ok (.ifCond .ge 6, 3) := by decide +kernel
theorem dX11_newArray_19 : decode cX11_newArray 19 = .ok (.bipush (-14), 2) := by decide +kernel
theorem dX11_newArray_21 : decode cX11_newArray 21 = .ok (.ireturn, 1) := by decide +kernel
theorem dX11_newArray_22 : decode cX11_newArray 22 = .ok (.aload_n 0, 1) := by decide +kernel
theorem dX11_newArray_23 : decode cX11_newArray 23 = .ok (.getfield 63, 3) := by decide +kernel
theorem dX11_newArray_26 : decode cX11_newArray 26 = .ok (.iload_n 1, 1) := by decide +kernel
theorem dX11_newArray_27 : decode cX11_newArray 27 = .ok (.iload_n 2, 1) := by decide +kernel
theorem dX11_newArray_28 : decode cX11_newArray 28 = .ok (.iastore, 1) := by decide +kernel
theorem dX11_newArray_29 : decode cX11_newArray 29 = .ok (.iconst 0, 1) := by decide +kernel
theorem dX11_newArray_30 : decode cX11_newArray 30 = .ok (.istore_n 3, 1) := by decide +kernel
theorem dX11_newArray_31 : decode cX11_newArray 31 = .ok (.iload_n 3, 1) := by decide +kernel
theorem dX11_newArray_32 : decode cX11_newArray 32 = .ok (.bipush 41, 2) := by decide +kernel
theorem dX11_newArray_34 : decode cX11_newArray 34 = .ok (.if_icmp .ge 21, 3) := by decide +kernel
theorem dX11_newArray_37 : decode cX11_newArray 37 = .ok (.aload_n 0, 1) := by decide +kernel
theorem dX11_newArray_38 : decode cX11_newArray 38 = .ok (.getfield 66, 3) := by decide +kernel
theorem dX11_newArray_41 : decode cX11_newArray 41 = .ok (.bipush 41, 2) := by decide +kernel
theorem dX11_newArray_43 : decode cX11_newArray 43 = .ok (.iload_n 1, 1) := by decide +kernel
theorem dX11_newArray_44 : decode cX11_newArray 44 = .ok (.imul, 1) := by decide +kernel
theorem dX11_newArray_45 : decode cX11_newArray 45 = .ok (.iload_n 3, 1) := by decide +kernel
theorem dX11_newArray_46 : decode cX11_newArray 46 = .ok (.iadd, 1) := by decide +kernel
theorem dX11_newArray_47 : decode cX11_newArray 47 = .ok (.lconst 0, 1) := by decide +kernel
theorem dX11_newArray_48 : decode cX11_newArray 48 = .ok (.lastore, 1) := by decide +kernel
theorem dX11_newArray_49 : decode cX11_newArray 49 = .ok (.iinc 3 1, 3) := by decide +kernel
theorem dX11_newArray_52 : decode cX11_newArray 52 = .ok (.goto (-21), 3) := by decide +kernel
theorem dX11_newArray_55 : decode cX11_newArray 55 = .ok (.iconst 1, 1) := by decide +kernel
theorem dX11_newArray_56 : decode cX11_newArray 56 = .ok (.ireturn, 1) := by decide +kernel
set_option maxRecDepth 20000 in
theorem ggX11_setElement_X11_isWord : GoodIn wsX11_setElement wsX11_isWord := goodIn_r _ [6, 7, 8, 5, 9] rfl (by decide +kernel)
set_option maxRecDepth 20000 in
theorem gX11_setElement_X11_isWord : GoodIn wsX11_setElement (va_wsS RX11 115 yX11_isWord wsX11_isWord) := goodIn_app (goodIn_r _ [3, 4, 5] rfl (by decide +kernel)) ggX11_setElement_X11_isWord
set_option maxRecDepth 20000 in
theorem ggX11_setElement_X11_isIn : GoodIn wsX11_setElement wsX11_isIn := goodIn_r _ [9] rfl (by decide +kernel)
set_option maxRecDepth 20000 in
theorem gX11_setElement_X11_isIn : GoodIn wsX11_setElement (va_wsS RX11 85 yX11_isIn wsX11_isIn) := goodIn_app (goodIn_r _ [7, 8, 5] rfl (by decide +kernel)) ggX11_setElement_X11_isIn
theorem dX11_setElement_0 : decode cX11_setElement 0 = .ok (.iload_n 1, 1) := by decide +kernel
theorem dX11_setElement_1 : decode cX11_setElement 1 = .ok (.invokestatic 115, 3) := by decide +kernel
theorem dX11_setElement_4 : decode cX11_setElement 4 = .ok (.ifCond .ne 5, 3) := by decide +kernel
theorem dX11_setElement_7 : decode cX11_setElement 7 = .ok (.iconst (-1), 1) := by decide +kernel
theorem dX11_setElement_8 : decode cX11_setElement 8 = .ok (.ireturn, 1) := by decide +kernel
theorem dX11_setElement_9 : decode cX11_setElement 9 = .ok (.aload_n 0, 1) := by decide +kernel
theorem dX11_setElement_10 : decode cX11_setElement 10 = .ok (.getfield 63, 3) := by decide +kernel
theorem dX11_setElement_13 : decode cX11_setElement 13 = .ok (.iload_n 1, 1) := by decide +kernel
theorem dX11_setElement_14 : decode cX11_setElement 14 = .ok (.iaload, 1) := by decide +kernel
theorem dX11_setElement_15 : decode cX11_setElement 15 = .ok (.ifCond .ge 6, 3) := by decide +kernel
theorem dX11_setElement_18 : decode cX11_setElement 18 = .ok (.bipush (-11), 2) := by decide +kernel
theorem dX11_setElement_20 : decode cX11_setElement 20 = .ok (.ireturn, 1) := by decide +kernel
theorem dX11_setElement_21 : decode cX11_setElement 21 = .ok (.iload_n 2, 1) := by decide +kernel
theorem dX11_setElement_22 : decode cX11_setElement 22 = .ok (.iconst 0, 1) := by decide +kernel
theorem dX11_setElement_23 : decode cX11_setElement 23 = .ok (.aload_n 0, 1) := by decide +kernel
theorem dX11_setElement_24 : decode cX11_setElement 24 = .ok (.getfield 63, 3) := by decide +kernel
theorem dX11_setElement_27 : decode cX11_setElement 27 = .ok (.iload_n 1, 1) := by decide +kernel
theorem dX11_setElement_28 : decode cX11_setElement 28 = .ok (.iaload, 1) := by decide +kernel
theorem dX11_setElement_29 : decode cX11_setElement 29 = .ok (.iconst 1, 1) := by decide +kernel
theorem dX11_setElement_30 : decode cX11_setElement 30 = .ok (.isub, 1) := by decide +kernel
theorem dX11_setElement_31 : decode cX11_setElement 31 = .ok (.invokestatic 85, 3) := by decide +kernel
theorem dX11_setElement_34 : decode cX11_setElement 34 = .ok (.ifCond .ne 6, 3) := by decide +kernel
theorem dX11_setElement_37 : decode cX11_setElement 37 = .ok (.bipush (-13), 2) := by decide +kernel
theorem dX11_setElement_39 : decode cX11_setElement 39 = .ok (.ireturn, 1) := by decide +kernel
theorem dX11_setElement_40 : decode cX11_setElement 40 = .ok (.aload_n 0, 1) := by decide +kernel
theorem dX11_setElement_41 : decode cX11_setElement 41 = .ok (.getfield 66, 3) := by decide +kernel
theorem dX11_setElement_44 : decode cX11_setElement 44 = .ok (.bipush 41, 2) := by decide +kernel
theorem dX11_setElement_46 : decode cX11_setElement 46 = .ok (.iload_n 1, 1) := by decide +kernel
theorem dX11_setElement_47 : decode cX11_setElement 47 = .ok (.imul, 1) := by decide +kernel
theorem dX11_setElement_48 : decode cX11_setElement 48 = .ok (.iload_n 2, 1) := by decide +kernel
theorem dX11_setElement_49 : decode cX11_setElement 49 = .ok (.iadd, 1) := by decide +kernel
theorem dX11_setElement_50 : decode cX11_setElement 50 = .ok (.lload_n 3, 1) := by decide +kernel
theorem dX11_setElement_51 : decode cX11_setElement 51 = .ok (.lastore, 1) := by decide +kernel
theorem dX11_setElement_52 : decode cX11_setElement 52 = .ok (.iconst 1, 1) := by decide +kernel
theorem dX11_setElement_53 : decode cX11_setElement 53 = .ok (.ireturn, 1) := by decide +kernel
set_option maxRecDepth 20000 in
theorem ggX11_element_X11_isWord : GoodIn wsX11_element wsX11_isWord := goodIn_r _ [7, 8, 9, 6, 10] rfl (by decide +kernel)
set_option maxRecDepth 20000 in
theorem gX11_element_X11_isWord : GoodIn wsX11_element (va_wsS RX11 115 yX11_isWord wsX11_isWord) := goodIn_app (goodIn_r _ [4, 5, 6] rfl (by decide +kernel)) ggX11_element_X11_isWord
set_option maxRecDepth 20000 in
theorem ggX11_element_X11_isIn : GoodIn wsX11_element wsX11_isIn := goodIn_r _ [10] rfl (by decide +kernel)
set_option maxRecDepth 20000 in
theorem gX11_element_X11_isIn : GoodIn wsX11_element (va_wsS RX11 85 yX11_isIn wsX11_isIn) := goodIn_app (goodIn_r _ [8, 9, 6] rfl (by decide +kernel)) ggX11_element_X11_isIn
theorem dX11_element_0 : decode cX11_element 0 = .ok (.iload_n 1, 1) := by decide +kernel
theorem dX11_element_1 : decode cX11_element 1 = .ok (.invokestatic 115, 3) := by decide +kernel
theorem dX11_element_4 : decode cX11_element 4 = .ok (.ifCond .eq 33, 3) := by decide +kernel
theorem dX11_element_7 : decode cX11_element 7 = .ok (.iload_n 2, 1) := by decide +kernel
theorem dX11_element_8 : decode cX11_element 8 = .ok (.iconst 0, 1) := by decide +kernel
theorem dX11_element_9 : decode cX11_element 9 = .ok (.aload_n 0, 1) := by decide +kernel
theorem dX11_element_10 : decode cX11_element 10 = .ok (.getfield 63, 3) := by decide +kernel
theorem dX11_element_13 : decode cX11_element 13 = .ok (.iload_n 1, 1) := by decide +kernel
theorem dX11_element_14 : decode cX11_element 14 = .ok (.iaload, 1) := by decide +kernel
theorem dX11_element_15 : decode cX11_element 15 = .ok (.iconst 1, 1) := by decide +kernel
theorem dX11_element_16 : decode cX11_element 16 = .ok (.isub, 1) := by decide +kernel
theorem dX11_element_17 : decode cX11_element 17 = .ok (.invokestatic 85, 3) := by decide +kernel
theorem dX11_element_20 : decode cX11_element 20 = .ok (.ifCond .eq 17, 3) := by decide +kernel
theorem dX11_element_23 : decode cX11_element 23 = .ok (.aload_n 0, 1) := by decide +kernel
theorem dX11_element_24 : decode cX11_element 24 = .ok (.getfield 66, 3) := by decide +kernel
theorem dX11_element_27 : decode cX11_element 27 = .ok (.bipush 41, 2) := by decide +kernel
theorem dX11_element_29 : decode cX11_element 29 = .ok (.iload_n 1, 1) := by decide +kernel
theorem dX11_element_30 : decode cX11_element 30 = .ok (.imul, 1) := by decide +kernel
theorem dX11_element_31 : decode cX11_element 31 = .ok (.iload_n 2, 1) := by decide +kernel
theorem dX11_element_32 : decode cX11_element 32 = .ok (.iadd, 1) := by decide +kernel
theorem dX11_element_33 : decode cX11_element 33 = .ok (.laload, 1) := by decide +kernel
theorem dX11_element_34 : decode cX11_element 34 = .ok (.goto 6, 3) := by decide +kernel
theorem dX11_element_37 : decode cX11_element 37 = .ok (.ldc2_w 196, 3) := by decide +kernel
theorem dX11_element_40 : decode cX11_element 40 = .ok (.lreturn, 1) := by decide +kernel
set_option maxRecDepth 20000 in
theorem ggX11_prefixSums_X11_isWord : GoodIn wsX11_prefixSums wsX11_isWord := goodIn_r _ [8, 9, 10, 7, 11] rfl (by decide +kernel)
set_option maxRecDepth 20000 in
theorem gX11_prefixSums_X11_isWord : GoodIn wsX11_prefixSums (va_wsS RX11 115 yX11_isWord wsX11_isWord) := goodIn_app (goodIn_r _ [5, 6, 7] rfl (by decide +kernel)) ggX11_prefixSums_X11_isWord
set_option maxRecDepth 20000 in
theorem ggX11_prefixSums_X11_take : GoodIn wsX11_prefixSums wsX11_take := goodIn_r _ [15, 2, 3, 16, 17, 23, 24, 25, 26, 27, 28, 29, 30, 31, 32, 33, 34, 35, 36, 37, 38, 39, 40, 41, 42, 43, 44, 45, 46, 47, 48, 49, 50, 51, 52, 53, 54, 55, 56, 57, 58] rfl (by decide +kernel)
set_option maxRecDepth 20000 in
theorem gX11_prefixSums_X11_take : GoodIn wsX11_prefixSums (wsV RX11 151 RX11 yX11_take wsX11_take) := goodIn_app (goodIn_r _ [12, 13, 14, 7] rfl (by decide +kernel)) ggX11_prefixSums_X11_take
set_option maxRecDepth 20000 in
theorem ggX11_prefixSums_X11_sum : GoodIn wsX11_prefixSums wsX11_sum := goodIn_r _ [21, 22, 16, 23, 24, 25, 26, 27, 28, 29, 30, 31, 32, 33, 34, 35, 36, 37, 38, 39, 40, 41, 42, 43, 44, 45, 46, 47, 48, 49, 50, 51, 52, 53, 54, 55, 56, 57, 58] rfl (by decide +kernel)
set_option maxRecDepth 20000 in
theorem gX11_prefixSums_X11_sum : GoodIn wsX11_prefixSums (wsV RX11 135 RX11 yX11_sum wsX11_sum) := goodIn_app (goodIn_r _ [18, 19, 20, 7] rfl (by decide +kernel)) ggX11_prefixSums_X11_sum
theorem dX11_prefixSums_0 : decode cX11_prefixSums 0 = .ok (.iload_n 1, 1) := by decide +kernel
theorem dX11_prefixSums_1 : decode cX11_prefixSums 1 = .ok (.invokestatic 115, 3) := by decide +kernel
theorem dX11_prefixSums_4 : decode cX11_prefixSums 4 = .ok (.ifCond .eq 10, 3) := by decide +kernel
theorem dX11_prefixSums_7 : decode cX11_prefixSums 7 = .ok (.iload_n 2, 1) := by decide +kernel
theorem dX11_prefixSums_8 : decode cX11_prefixSums 8 = .ok (.invokestatic 115, 3) := by decide +kernel
theorem dX11_prefixSums_11 : decode cX11_prefixSums 11 = .ok (.ifCond .ne 5, 3) := by decide +kernel
theorem dX11_prefixSums_14 : decode cX11_prefixSums 14 = .ok (.iconst (-1), 1) := by decide +kernel
theorem dX11_prefixSums_15 : decode cX11_prefixSums 15 = .ok (.ireturn, 1) := by decide +kernel
theorem dX11_prefixSums_16 : decode cX11_prefixSums 16 = .ok (.aload_n 0, 1) := by decide +kernel
theorem dX11_prefixSums_17 : decode cX11_prefixSums 17 = .ok (.getfield 63, 3) := by decide +kernel
theorem dX11_prefixSums_20 : decode cX11_prefixSums 20 = .ok (.iload_n 1, 1) := by decide +kernel
theorem dX11_prefixSums_21 : decode cX11_prefixSums 21 = .ok (.iaload, 1) := by decide +kernel
theorem dX11_prefixSums_22 : decode cX11_prefixSums 22 = .ok (.ifCond .ge 6, 3) := by decide +kernel
theorem dX11_prefixSums_25 : decode cX11_prefixSums 25 = .ok (.bipush (-11), 2) := by decide +kernel
theorem dX11_prefixSums_27 : decode cX11_prefixSums 27 = .ok (.ireturn, 1) := by decide +kernel
theorem dX11_prefixSums_28 : decode cX11_prefixSums 28 = .ok (.aload_n 0, 1) := by decide +kernel
theorem dX11_prefixSums_29 : decode cX11_prefixSums 29 = .ok (.getfield 63, 3) := by decide +kernel
theorem dX11_prefixSums_32 : decode cX11_prefixSums 32 = .ok (.iload_n 1, 1) := by decide +kernel
theorem dX11_prefixSums_33 : decode cX11_prefixSums 33 = .ok (.iaload, 1) := by decide +kernel
theorem dX11_prefixSums_34 : decode cX11_prefixSums 34 = .ok (.aload_n 0, 1) := by decide +kernel
theorem dX11_prefixSums_35 : decode cX11_prefixSums 35 = .ok (.getfield 26, 3) := by decide +kernel
theorem dX11_prefixSums_38 : decode cX11_prefixSums 38 = .ok (.iload_n 2, 1) := by decide +kernel
theorem dX11_prefixSums_39 : decode cX11_prefixSums 39 = .ok (.iaload, 1) := by decide +kernel
theorem dX11_prefixSums_40 : decode cX11_prefixSums 40 = .ok (.iconst 1, 1) := by decide +kernel
theorem dX11_prefixSums_41 : decode cX11_prefixSums 41 = .ok (.iadd, 1) := by decide +kernel
theorem dX11_prefixSums_42 : decode cX11_prefixSums 42 = .ok (.if_icmp .ge 6, 3) := by decide +kernel
theorem dX11_prefixSums_45 : decode cX11_prefixSums 45 = .ok (.bipush (-13), 2) := by decide +kernel
theorem dX11_prefixSums_47 : decode cX11_prefixSums 47 = .ok (.ireturn, 1) := by decide +kernel
theorem dX11_prefixSums_48 : decode cX11_prefixSums 48 = .ok (.aload_n 0, 1) := by decide +kernel
theorem dX11_prefixSums_49 : decode cX11_prefixSums 49 = .ok (.iload_n 2, 1) := by decide +kernel
theorem dX11_prefixSums_50 : decode cX11_prefixSums 50 = .ok (.invokevirtual 151, 3) := by decide +kernel
theorem dX11_prefixSums_53 : decode cX11_prefixSums 53 = .ok (.iconst 0, 1) := by decide +kernel
theorem dX11_prefixSums_54 : decode cX11_prefixSums 54 = .ok (.istore_n 3, 1) := by decide +kernel
theorem dX11_prefixSums_55 : decode cX11_prefixSums 55 = .ok (.iload_n 3, 1) := by decide +kernel
theorem dX11_prefixSums_56 : decode cX11_prefixSums 56 = .ok (.aload_n 0, 1) := by decide +kernel
theorem dX11_prefixSums_57 : decode cX11_prefixSums 57 = .ok (.getfield 118, 3) := by decide +kernel
theorem dX11_prefixSums_60 : decode cX11_prefixSums 60 = .ok (.if_icmp .gt 27, 3) := by decide +kernel
theorem dX11_prefixSums_63 : decode cX11_prefixSums 63 = .ok (.aload_n 0, 1) := by decide +kernel
theorem dX11_prefixSums_64 : decode cX11_prefixSums 64 = .ok (.getfield 66, 3) := by decide +kernel
theorem dX11_prefixSums_67 : decode cX11_prefixSums 67 = .ok (.bipush 41, 2) := by decide +kernel
theorem dX11_prefixSums_69 : decode cX11_prefixSums 69 = .ok (.iload_n 1, 1) := by decide +kernel
theorem dX11_prefixSums_70 : decode cX11_prefixSums 70 = .ok (.imul, 1) := by decide +kernel
theorem dX11_prefixSums_71 : decode cX11_prefixSums 71 = .ok (.iload_n 3, 1) := by decide +kernel
theorem dX11_prefixSums_72 : decode cX11_prefixSums 72 = .ok (.iadd, 1) := by decide +kernel
theorem dX11_prefixSums_73 : decode cX11_prefixSums 73 = .ok (.aload_n 0, 1) := by decide +kernel
theorem dX11_prefixSums_74 : decode cX11_prefixSums 74 = .ok (.iconst 0, 1) := by decide +kernel
theorem dX11_prefixSums_75 : decode cX11_prefixSums 75 = .ok (.iload_n 3, 1) := by decide +kernel
theorem dX11_prefixSums_76 : decode cX11_prefixSums 76 = .ok (.invokevirtual 135, 3) := by decide +kernel
theorem dX11_prefixSums_79 : decode cX11_prefixSums 79 = .ok (.i2l, 1) := by decide +kernel
theorem dX11_prefixSums_80 : decode cX11_prefixSums 80 = .ok (.lastore, 1) := by decide +kernel
theorem dX11_prefixSums_81 : decode cX11_prefixSums 81 = .ok (.iinc 3 1, 3) := by decide +kernel
theorem dX11_prefixSums_84 : decode cX11_prefixSums 84 = .ok (.goto (-29), 3) := by decide +kernel
theorem dX11_prefixSums_87 : decode cX11_prefixSums 87 = .ok (.aload_n 0, 1) := by decide +kernel
theorem dX11_prefixSums_88 : decode cX11_prefixSums 88 = .ok (.getfield 118, 3) := by decide +kernel
theorem dX11_prefixSums_91 : decode cX11_prefixSums 91 = .ok (.iconst 1, 1) := by decide +kernel
theorem dX11_prefixSums_92 : decode cX11_prefixSums 92 = .ok (.iadd, 1) := by decide +kernel
theorem dX11_prefixSums_93 : decode cX11_prefixSums 93 = .ok (.ireturn, 1) := by decide +kernel
theorem dX11_allLetters_0 : decode cX11_allLetters 0 = .ok (.aload_n 0, 1) := by decide +kernel
theorem dX11_allLetters_1 : decode cX11_allLetters 1 = .ok (.getfield 26, 3) := by decide +kernel
theorem dX11_allLetters_4 : decode cX11_allLetters 4 = .ok (.iconst 0, 1) := by decide +kernel
theorem dX11_allLetters_5 : decode cX11_allLetters 5 = .ok (.iaload, 1) := by decide +kernel
theorem dX11_allLetters_6 : decode cX11_allLetters 6 = .ok (.aload_n 0, 1) := by decide +kernel
theorem dX11_allLetters_7 : decode cX11_allLetters 7 = .ok (.getfield 26, 3) := by decide +kernel
theorem dX11_allLetters_10 : decode cX11_allLetters 10 = .ok (.iconst 1, 1) := by decide +kernel
theorem dX11_allLetters_11 : decode cX11_allLetters 11 = .ok (.iaload, 1) := by decide +kernel
theorem dX11_allLetters_12 : decode cX11_allLetters 12 = .ok (.iadd, 1) := by decide +kernel
theorem dX11_allLetters_13 : decode cX11_allLetters 13 = .ok (.aload_n 0, 1) := by decide +kernel
theorem dX11_allLetters_14 : decode cX11_allLetters 14 = .ok (.getfield 26, 3) := by decide +kernel
theorem dX11_allLetters_17 : decode cX11_allLetters 17 = .ok (.iconst 2, 1) := by decide +kernel
theorem dX11_allLetters_18 : decode cX11_allLetters 18 = .ok (.iaload, 1) := by decide +kernel
theorem dX11_allLetters_19 : decode cX11_allLetters 19 = .ok (.iadd, 1) := by decide +kernel
theorem dX11_allLetters_20 : decode cX11_allLetters 20 = .ok (.ireturn, 1) := by decide +kernel
set_option maxRecDepth 20000 in
theorem ggX11_saveSnapshot_X11_allLetters : GoodIn wsX11_saveSnapshot wsX11_allLetters := goodIn_r _ [22, 11, 23, 24, 25, 26, 27, 28, 29, 30, 31, 32, 33, 34, 35, 36, 37, 38, 39, 40, 41, 42, 43, 44, 45, 46, 47, 48, 49, 50, 51, 52, 53, 54, 55, 56, 57, 58] rfl (by decide +kernel)
set_option maxRecDepth 20000 in
theorem gX11_saveSnapshot_X11_allLetters : GoodIn wsX11_saveSnapshot (wsV RX11 276 RX11 yX11_allLetters wsX11_allLetters) := goodIn_app (goodIn_r _ [18, 19, 20, 21] rfl (by decide +kernel)) ggX11_saveSnapshot_X11_allLetters
theorem dX11_saveSnapshot_0 : decode cX11_saveSnapshot 0 = .ok (.aload_n 0, 1) := by decide +kernel
theorem dX11_saveSnapshot_1 : decode cX11_saveSnapshot 1 = .ok (.iconst 1, 1) := by decide +kernel
theorem dX11_saveSnapshot_2 : decode cX11_saveSnapshot 2 = .ok (.putfield 264, 3) := by decide +kernel
theorem dX11_saveSnapshot_5 : decode cX11_saveSnapshot 5 = .ok (.aload_n 0, 1) := by decide +kernel
theorem dX11_saveSnapshot_6 : decode cX11_saveSnapshot 6 = .ok (.aload_n 0, 1) := by decide +kernel
theorem dX11_saveSnapshot_7 : decode cX11_saveSnapshot 7 = .ok (.getfield 7, 3) := by decide +kernel
theorem dX11_saveSnapshot_10 : decode cX11_saveSnapshot 10 = .ok (.putfield 267, 3) := by decide +kernel
theorem dX11_saveSnapshot_13 : decode cX11_saveSnapshot 13 = .ok (.aload_n 0, 1) := by decide +kernel
theorem dX11_saveSnapshot_14 : decode cX11_saveSnapshot 14 = .ok (.aload_n 0, 1) := by decide +kernel
theorem dX11_saveSnapshot_15 : decode cX11_saveSnapshot 15 = .ok (.getfield 13, 3) := by decide +kernel
theorem dX11_saveSnapshot_18 : decode cX11_saveSnapshot 18 = .ok (.putfield 270, 3) := by decide +kernel
theorem dX11_saveSnapshot_21 : decode cX11_saveSnapshot 21 = .ok (.aload_n 0, 1) := by decide +kernel
theorem dX11_saveSnapshot_22 : decode cX11_saveSnapshot 22 = .ok (.aload_n 0, 1) := by decide +kernel
theorem dX11_saveSnapshot_23 : decode cX11_saveSnapshot 23 = .ok (.getfield 16, 3) := by decide +kernel
theorem dX11_saveSnapshot_26 : decode cX11_saveSnapshot 26 = .ok (.putfield 273, 3) := by decide +kernel
theorem dX11_saveSnapshot_29 : decode cX11_saveSnapshot 29 = .ok (.iconst 0, 1) := by decide +kernel
theorem dX11_saveSnapshot_30 : decode cX11_saveSnapshot 30 = .ok (.istore_n 1, 1) := by decide +kernel
theorem dX11_saveSnapshot_31 : decode cX11_saveSnapshot 31 = .ok (.iload_n 1, 1) := by decide +kernel
theorem dX11_saveSnapshot_32 : decode cX11_saveSnapshot 32 = .ok (.bipush 120, 2) := by decide +kernel
theorem dX11_saveSnapshot_34 : decode cX11_saveSnapshot 34 = .ok (.if_icmp .ge 87, 3) := by decide +kernel
theorem dX11_saveSnapshot_37 : decode cX11_saveSnapshot 37 = .ok (.aload_n 0, 1) := by decide +kernel
theorem dX11_saveSnapshot_38 : decode cX11_saveSnapshot 38 = .ok (.getfield 73, 3) := by decide +kernel
theorem dX11_saveSnapshot_41 : decode cX11_saveSnapshot 41 = .ok (.iload_n 1, 1) := by decide +kernel
theorem dX11_saveSnapshot_42 : decode cX11_saveSnapshot 42 = .ok (.aload_n 0, 1) := by decide +kernel
theorem dX11_saveSnapshot_43 : decode cX11_saveSnapshot 43 = .ok (.getfield 23, 3) := by decide +kernel
theorem dX11_saveSnapshot_46 : decode cX11_saveSnapshot 46 = .ok (.iload_n 1, 1) := by decide +kernel
theorem dX11_saveSnapshot_47 : decode cX11_saveSnapshot 47 = .ok (.iaload, 1) := by decide +kernel
theorem dX11_saveSnapshot_48 : decode cX11_saveSnapshot 48 = .ok (.iastore, 1) := by decide +kernel
theorem dX11_saveSnapshot_49 : decode cX11_saveSnapshot 49 = .ok (.aload_n 0, 1) := by decide +kernel
theorem dX11_saveSnapshot_50 : decode cX11_saveSnapshot 50 = .ok (.getfield 76, 3) := by decide +kernel
theorem dX11_saveSnapshot_53 : decode cX11_saveSnapshot 53 = .ok (.iload_n 1, 1) := by decide +kernel
theorem dX11_saveSnapshot_54 : decode cX11_saveSnapshot 54 = .ok (.iconst 3, 1) := by decide +kernel
theorem dX11_saveSnapshot_55 : decode cX11_saveSnapshot 55 = .ok (.irem, 1) := by decide +kernel
theorem dX11_saveSnapshot_56 : decode cX11_saveSnapshot 56 = .ok (.aload_n 0, 1) := by decide +kernel
theorem dX11_saveSnapshot_57 : decode cX11_saveSnapshot 57 = .ok (.getfield 26, 3) := by decide +kernel
theorem dX11_saveSnapshot_60 : decode cX11_saveSnapshot 60 = .ok (.iload_n 1, 1) := by decide +kernel
theorem dX11_saveSnapshot_61 : decode cX11_saveSnapshot 61 = .ok (.iconst 3, 1) := by decide +kernel
theorem dX11_saveSnapshot_62 : decode cX11_saveSnapshot 62 = .ok (.irem, 1) := by decide +kernel
theorem dX11_saveSnapshot_63 : decode cX11_saveSnapshot 63 = .ok (.iaload, 1) := by decide +kernel
theorem dX11_saveSnapshot_64 : decode cX11_saveSnapshot 64 = .ok (.iastore, 1) := by decide +kernel
theorem dX11_saveSnapshot_65 : decode cX11_saveSnapshot 65 = .ok (.aload_n 0, 1) := by decide +kernel
theorem dX11_saveSnapshot_66 : decode cX11_saveSnapshot 66 = .ok (.getfield 79, 3) := by decide +kernel
theorem dX11_saveSnapshot_69 : decode cX11_saveSnapshot 69 = .ok (.iload_n 1, 1) := by decide +kernel
theorem dX11_saveSnapshot_70 : decode cX11_saveSnapshot 70 = .ok (.bipush 16, 2) := by decide +kernel
theorem dX11_saveSnapshot_72 : decode cX11_saveSnapshot 72 = .ok (.irem, 1) := by decide +kernel
theorem dX11_saveSnapshot_73 : decode cX11_saveSnapshot 73 = .ok (.aload_n 0, 1) := by decide +kernel
theorem dX11_saveSnapshot_74 : decode cX11_saveSnapshot 74 = .ok (.getfield 29, 3) := by decide +kernel
theorem dX11_saveSnapshot_77 : decode cX11_saveSnapshot 77 = .ok (.iload_n 1, 1) := by decide +kernel
theorem dX11_saveSnapshot_78 : decode cX11_saveSnapshot 78 = .ok (.bipush 16, 2) := by decide +kernel
theorem dX11_saveSnapshot_80 : decode cX11_saveSnapshot 80 = .ok (.irem, 1) := by decide +kernel
theorem dX11_saveSnapshot_81 : decode cX11_saveSnapshot 81 = .ok (.iaload, 1) := by decide +kernel
theorem dX11_saveSnapshot_82 : decode cX11_saveSnapshot 82 = .ok (.iastore, 1) := by decide +kernel
theorem dX11_saveSnapshot_83 : decode cX11_saveSnapshot 83 = .ok (.aload_n 0, 1) := by decide +kernel
theorem dX11_saveSnapshot_84 : decode cX11_saveSnapshot 84 = .ok (.getfield 82, 3) := by decide +kernel
theorem dX11_saveSnapshot_87 : decode cX11_saveSnapshot 87 = .ok (.iload_n 1, 1) := by decide +kernel
theorem dX11_saveSnapshot_88 : decode cX11_saveSnapshot 88 = .ok (.iconst 4, 1) := by decide +kernel
theorem dX11_saveSnapshot_89 : decode cX11_saveSnapshot 89 = .ok (.irem, 1) := by decide +kernel
theorem dX11_saveSnapshot_90 : decode cX11_saveSnapshot 90 = .ok (.aload_n 0, 1) := by decide +kernel
theorem dX11_saveSnapshot_91 : decode cX11_saveSnapshot 91 = .ok (.getfield 32, 3) := by decide +kernel
theorem dX11_saveSnapshot_94 : decode cX11_saveSnapshot 94 = .ok (.iload_n 1, 1) := by decide +kernel
theorem dX11_saveSnapshot_95 : decode cX11_saveSnapshot 95 = .ok (.iconst 4, 1) := by decide +kernel
theorem dX11_saveSnapshot_96 : decode cX11_saveSnapshot 96 = .ok (.irem, 1) := by decide +kernel
theorem dX11_saveSnapshot_97 : decode cX11_saveSnapshot 97 = .ok (.iaload, 1) := by decide +kernel
theorem dX11_saveSnapshot_98 : decode cX11_saveSnapshot 98 = .ok (.iastore, 1) := by decide +kernel
theorem dX11_saveSnapshot_99 : decode cX11_saveSnapshot 99 = .ok (.aload_n 0, 1) := by decide +kernel
theorem dX11_saveSnapshot_100 : decode cX11_saveSnapshot 100 = .ok (.getfield 70, 3) := by decide +kernel
theorem dX11_saveSnapshot_103 : decode cX11_saveSnapshot 103 = .ok (.iload_n 1, 1) := by decide +kernel
theorem dX11_saveSnapshot_104 : decode cX11_saveSnapshot 104 = .ok (.iconst 4, 1) := by decide +kernel
theorem dX11_saveSnapshot_105 : decode cX11_saveSnapshot 105 = .ok (.irem, 1) := by decide +kernel
theorem dX11_saveSnapshot_106 : decode cX11_saveSnapshot 106 = .ok (.aload_n 0, 1) := by decide +kernel
theorem dX11_saveSnapshot_107 : decode cX11_saveSnapshot 107 = .ok (.getfield 19, 3) := by decide +kernel
theorem dX11_saveSnapshot_110 : decode cX11_saveSnapshot 110 = .ok (.iload_n 1, 1) := by decide +kernel
theorem dX11_saveSnapshot_111 : decode cX11_saveSnapshot 111 = .ok (.iconst 4, 1) := by decide +kernel
theorem dX11_saveSnapshot_112 : decode cX11_saveSnapshot 112 = .ok (.irem, 1) := by decide +kernel
theorem dX11_saveSnapshot_113 : decode cX11_saveSnapshot 113 = .ok (.iaload, 1) := by decide +kernel
theorem dX11_saveSnapshot_114 : decode cX11_saveSnapshot 114 = .ok (.iastore, 1) := by decide +kernel
theorem dX11_saveSnapshot_115 : decode cX11_saveSnapshot 115 = .ok (.iinc 1 1, 3) := by decide +kernel
theorem dX11_saveSnapshot_118 : decode cX11_saveSnapshot 118 = .ok (.goto (-87), 3) := by decide +kernel
theorem dX11_saveSnapshot_121 : decode cX11_saveSnapshot 121 = .ok (.aload_n 0, 1) := by decide +kernel
theorem dX11_saveSnapshot_122 : decode cX11_saveSnapshot 122 = .ok (.invokevirtual 276, 3) := by decide +kernel
theorem dX11_saveSnapshot_125 : decode cX11_saveSnapshot 125 = .ok (.ireturn, 1) := by decide +kernel
set_option maxRecDepth 20000 in
theorem ggX11_restoreSnapshot_X11_allLetters : GoodIn wsX11_restoreSnapshot wsX11_allLetters := goodIn_r _ [22, 10, 23, 24, 25, 26, 27, 28, 29, 30, 31, 32, 33, 34, 35, 36, 37, 38, 39, 40, 41, 42, 43, 44, 45, 46, 47, 48, 49, 50, 51, 52, 53, 54, 55, 56, 57, 58] rfl (by decide +kernel)
set_option maxRecDepth 20000 in
theorem gX11_restoreSnapshot_X11_allLetters : GoodIn wsX11_restoreSnapshot (wsV RX11 276 RX11 yX11_allLetters wsX11_allLetters) := goodIn_app (goodIn_r _ [18, 19, 20, 21] rfl (by decide +kernel)) ggX11_restoreSnapshot_X11_allLetters
theorem dX11_restoreSnapshot_0 : decode cX11_restoreSnapshot 0 = .ok (.aload_n 0, 1) := by decide +kernel
theorem dX11_restoreSnapshot_1 : decode cX11_restoreSnapshot 1 = .ok (.getfield 264, 3) := by decide +kernel
theorem dX11_restoreSnapshot_4 : decode cX11_restoreSnapshot 4 = .ok (.ifCond .ne 6, 3) := by decide +kernel
theorem dX11_restoreSnapshot_7 : decode cX11_restoreSnapshot 7 = .ok (.bipush (-2), 2) := by decide +kernel
theorem dX11_restoreSnapshot_9 : decode cX11_restoreSnapshot 9 = .ok (.ireturn, 1) := by decide +kernel
theorem dX11_restoreSnapshot_10 : decode cX11_restoreSnapshot 10 = .ok (.aload_n 0, 1) := by decide +kernel
theorem dX11_restoreSnapshot_11 : decode cX11_restoreSnapshot 11 = .ok (.aload_n 0, 1) := by decide +kernel
theorem dX11_restoreSnapshot_12 : decode cX11_restoreSnapshot 12 = .ok (.getfield 267, 3) := by decide +kernel
theorem dX11_restoreSnapshot_15 : decode cX11_restoreSnapshot 15 = .ok (.putfield 7, 3) := by decide +kernel
theorem dX11_restoreSnapshot_18 : decode cX11_restoreSnapshot 18 = .ok (.aload_n 0, 1) := by decide +kernel
theorem dX11_restoreSnapshot_19 : decode cX11_restoreSnapshot 19 = .ok (.aload_n 0, 1) := by decide +kernel
theorem dX11_restoreSnapshot_20 : decode cX11_restoreSnapshot 20 = .ok (.getfield 270, 3) := by decide +kernel
theorem dX11_restoreSnapshot_23 : decode cX11_restoreSnapshot 23 = .ok (.putfield 13, 3) := by decide +kernel
theorem dX11_restoreSnapshot_26 : decode cX11_restoreSnapshot 26 = .ok (.aload_n 0, 1) := by decide +kernel
theorem dX11_restoreSnapshot_27 : decode cX11_restoreSnapshot 27 = .ok (.aload_n 0, 1) := by decide +kernel
theorem dX11_restoreSnapshot_28 : decode cX11_restoreSnapshot 28 = .ok (.getfield 273, 3) := by decide +kernel
theorem dX11_restoreSnapshot_31 : decode cX11_restoreSnapshot 31 = .ok (.putfield 16, 3) := by decide +kernel
theorem dX11_restoreSnapshot_34 : decode cX11_restoreSnapshot 34 = .ok (.iconst 0, 1) := by decide +kernel
theorem dX11_restoreSnapshot_35 : decode cX11_restoreSnapshot 35 = .ok (.istore_n 1, 1) := by decide +kernel
theorem dX11_restoreSnapshot_36 : decode cX11_restoreSnapshot 36 = .ok (.iload_n 1, 1) := by decide +kernel
theorem dX11_restoreSnapshot_37 : decode cX11_restoreSnapshot 37 = .ok (.bipush 120, 2) := by decide +kernel
theorem dX11_restoreSnapshot_39 : decode cX11_restoreSnapshot 39 = .ok (.if_icmp .ge 87, 3) := by decide +kernel
theorem dX11_restoreSnapshot_42 : decode cX11_restoreSnapshot 42 = .ok (.aload_n 0, 1) := by decide +kernel
theorem dX11_restoreSnapshot_43 : decode cX11_restoreSnapshot 43 = .ok (.getfield 23, 3) := by decide +kernel
theorem dX11_restoreSnapshot_46 : decode cX11_restoreSnapshot 46 = .ok (.iload_n 1, 1) := by decide +kernel
theorem dX11_restoreSnapshot_47 : decode cX11_restoreSnapshot 47 = .ok (.aload_n 0, 1) := by decide +kernel
theorem dX11_restoreSnapshot_48 : decode cX11_restoreSnapshot 48 = .ok (.getfield 73, 3) := by decide +kernel
theorem dX11_restoreSnapshot_51 : decode cX11_restoreSnapshot 51 = .ok (.iload_n 1, 1) := by decide +kernel
theorem dX11_restoreSnapshot_52 : decode cX11_restoreSnapshot 52 = .ok (.iaload, 1) := by decide +kernel
theorem dX11_restoreSnapshot_53 : decode cX11_restoreSnapshot 53 = .ok (.iastore, 1) := by decide +kernel
theorem dX11_restoreSnapshot_54 : decode cX11_restoreSnapshot 54 = .ok (.aload_n 0, 1) := by decide +kernel
theorem dX11_restoreSnapshot_55 : decode cX11_restoreSnapshot 55 = .ok (.getfield 26, 3) := by decide +kernel
theorem dX11_restoreSnapshot_58 : decode cX11_restoreSnapshot 58 = .ok (.iload_n 1, 1) := by decide +kernel
theorem dX11_restoreSnapshot_59 : decode cX11_restoreSnapshot 59 = .ok (.iconst 3, 1) := by decide +kernel
theorem dX11_restoreSnapshot_60 : decode cX11_restoreSnapshot 60 = .ok (.irem, 1) := by decide +kernel
theorem dX11_restoreSnapshot_61 : decode cX11_restoreSnapshot 61 = .ok (.aload_n 0, 1) := by decide +kernel
theorem dX11_restoreSnapshot_62 : decode cX11_restoreSnapshot 62 = .ok (.getfield 76, 3) := by decide +kernel
theorem dX11_restoreSnapshot_65 : decode cX11_restoreSnapshot 65 = .ok (.iload_n 1, 1) := by decide +kernel
theorem dX11_restoreSnapshot_66 : decode cX11_restoreSnapshot 66 = .ok (.iconst 3, 1) := by decide +kernel
theorem dX11_restoreSnapshot_67 : decode cX11_restoreSnapshot 67 = .ok (.irem, 1) := by decide +kernel
theorem dX11_restoreSnapshot_68 : decode cX11_restoreSnapshot 68 = .ok (.iaload, 1) := by decide +kernel
theorem dX11_restoreSnapshot_69 : decode cX11_restoreSnapshot 69 = .ok (.iastore, 1) := by decide +kernel
theorem dX11_restoreSnapshot_70 : decode cX11_restoreSnapshot 70 = .ok (.aload_n 0, 1) := by decide +kernel
theorem dX11_restoreSnapshot_71 : decode cX11_restoreSnapshot 71 = .ok (.getfield 29, 3) := by decide +kernel
theorem dX11_restoreSnapshot_74 : decode cX11_restoreSnapshot 74 = .ok (.iload_n 1, 1) := by decide +kernel
theorem dX11_restoreSnapshot_75 : decode cX11_restoreSnapshot 75 = .ok (.bipush 16, 2) := by decide +kernel
theorem dX11_restoreSnapshot_77 : decode cX11_restoreSnapshot 77 = .ok (.irem, 1) := by decide +kernel
theorem dX11_restoreSnapshot_78 : decode cX11_restoreSnapshot 78 = .ok (.aload_n 0, 1) := by decide +kernel
theorem dX11_restoreSnapshot_79 : decode cX11_restoreSnapshot 79 = .ok (.getfield 79, 3) := by decide +kernel
theorem dX11_restoreSnapshot_82 : decode cX11_restoreSnapshot 82 = .ok (.iload_n 1, 1) := by decide +kernel
theorem dX11_restoreSnapshot_83 : decode cX11_restoreSnapshot 83 = .ok (.bipush 16, 2) := by decide +kernel
theorem dX11_restoreSnapshot_85 : decode cX11_restoreSnapshot 85 = .ok (.irem, 1) := by decide +kernel
theorem dX11_restoreSnapshot_86 : decode cX11_restoreSnapshot 86 = .ok (.iaload, 1) := by decide +kernel
theorem dX11_restoreSnapshot_87 : decode cX11_restoreSnapshot 87 = .ok (.iastore, 1) := by decide +kernel
theorem dX11_restoreSnapshot_88 : decode cX11_restoreSnapshot 88 = .ok (.aload_n 0, 1) := by decide +kernel
theorem dX11_restoreSnapshot_89 : decode cX11_restoreSnapshot 89 = .ok (.getfield 32, 3) := by decide +kernel
theorem dX11_restoreSnapshot_92 : decode cX11_restoreSnapshot 92 = .ok (.iload_n 1, 1) := by decide +kernel
theorem dX11_restoreSnapshot_93 : decode cX11_restoreSnapshot 93 = .ok (.iconst 4, 1) := by decide +kernel
theorem dX11_restoreSnapshot_94 : decode cX11_restoreSnapshot 94 = .ok (.irem, 1) := by decide +kernel
theorem dX11_restoreSnapshot_95 : decode cX11_restoreSnapshot 95 = .ok (.aload_n 0, 1) := by decide +kernel
theorem dX11_restoreSnapshot_96 : decode cX11_restoreSnapshot 96 = .ok (.getfield 82, 3) := by decide +kernel
theorem dX11_restoreSnapshot_99 : decode cX11_restoreSnapshot 99 = .ok (.iload_n 1, 1) := by decide +kernel
theorem dX11_restoreSnapshot_100 : decode cX11_restoreSnapshot 100 = .ok (.iconst 4, 1) := by decide +kernel
theorem dX11_restoreSnapshot_101 : decode cX11_restoreSnapshot 101 = .ok (.irem, 1) := by decide +kernel
theorem dX11_restoreSnapshot_102 : decode cX11_restoreSnapshot 102 = .ok (.iaload, 1) := by decide +kernel
theorem dX11_restoreSnapshot_103 : decode cX11_restoreSnapshot 103 = .ok (.iastore, 1) := by decide +kernel
theorem dX11_restoreSnapshot_104 : decode cX11_restoreSnapshot 104 = .ok (.aload_n 0, 1) := by decide +kernel
theorem dX11_restoreSnapshot_105 : decode cX11_restoreSnapshot 105 = .ok (.getfield 19, 3) := by decide +kernel
theorem dX11_restoreSnapshot_108 : decode cX11_restoreSnapshot 108 = .ok (.iload_n 1, 1) := by decide +kernel
theorem dX11_restoreSnapshot_109 : decode cX11_restoreSnapshot 109 = .ok (.iconst 4, 1) := by decide +kernel
theorem dX11_restoreSnapshot_110 : decode cX11_restoreSnapshot 110 = .ok (.irem, 1) := by decide +kernel
theorem dX11_restoreSnapshot_111 : decode cX11_restoreSnapshot 111 = .ok (.aload_n 0, 1) := by decide +kernel
theorem dX11_restoreSnapshot_112 : decode cX11_restoreSnapshot 112 = .ok (.getfield 70, 3) := by decide +kernel
theorem dX11_restoreSnapshot_115 : decode cX11_restoreSnapshot 115 = .ok (.iload_n 1, 1) := by decide +kernel
theorem dX11_restoreSnapshot_116 : decode cX11_restoreSnapshot 116 = .ok (.iconst 4, 1) := by decide +kernel
theorem dX11_restoreSnapshot_117 : decode cX11_restoreSnapshot 117 = .ok (.irem, 1) := by decide +kernel
theorem dX11_restoreSnapshot_118 : decode cX11_restoreSnapshot 118 = .ok (.iaload, 1) := by decide +kernel
theorem dX11_restoreSnapshot_119 : decode cX11_restoreSnapshot 119 = .ok (.iastore, 1) := by decide +kernel
theorem dX11_restoreSnapshot_120 : decode cX11_restoreSnapshot 120 = .ok (.iinc 1 1, 3) := by decide +kernel
theorem dX11_restoreSnapshot_123 : decode cX11_restoreSnapshot 123 = .ok (.goto (-87), 3) := by decide +kernel
theorem dX11_restoreSnapshot_126 : decode cX11_restoreSnapshot 126 = .ok (.aload_n 0, 1) := by decide +kernel
theorem dX11_restoreSnapshot_127 : decode cX11_restoreSnapshot 127 = .ok (.invokevirtual 276, 3) := by decide +kernel
theorem dX11_restoreSnapshot_130 : decode cX11_restoreSnapshot 130 = .ok (.ireturn, 1) := by decide +kernel
theorem dJ9_abs_067f4_0 : decode cJ9_abs_067f4 0 = .ok (.lload_n 0, 1) := by decide +kernel
theorem dJ9_abs_067f4_1 : decode cJ9_abs_067f4 1 = .ok (.lconst 0, 1) := by decide +kernel
theorem dJ9_abs_067f4_2 : decode cJ9_abs_067f4 2 = .ok (.lcmp, 1) := by decide +kernel
theorem dJ9_abs_067f4_3 : decode cJ9_abs_067f4 3 = .ok (.ifCond .ge 8, 3) := by decide +kernel
theorem dJ9_abs_067f4_6 : decode cJ9_abs_067f4 6 = .ok (.lload_n 0, 1) := by decide +kernel
theorem dJ9_abs_067f4_7 : decode cJ9_abs_067f4 7 = .ok (.lneg, 1) := by decide +kernel
theorem dJ9_abs_067f4_8 : decode cJ9_abs_067f4 8 = .ok (.goto 4, 3) := by decide +kernel
theorem dJ9_abs_067f4_11 : decode cJ9_abs_067f4 11 = .ok (.lload_n 0, 1) := by decide +kernel
theorem dJ9_abs_067f4_12 : decode cJ9_abs_067f4 12 = .ok (.lreturn, 1) := by decide +kernel
theorem dJ9_max_7cf53_0 : decode cJ9_max_7cf53 0 = .ok (.iload_n 0, 1) := by decide +kernel
theorem dJ9_max_7cf53_1 : decode cJ9_max_7cf53 1 = .ok (.iload_n 1, 1) := by decide +kernel
theorem dJ9_max_7cf53_2 : decode cJ9_max_7cf53 2 = .ok (.if_icmp .lt 7, 3) := by decide +kernel
theorem dJ9_max_7cf53_5 : decode cJ9_max_7cf53 5 = .ok (.iload_n 0, 1) := by decide +kernel
theorem dJ9_max_7cf53_6 : decode cJ9_max_7cf53 6 = .ok (.goto 4, 3) := by decide +kernel
theorem dJ9_max_7cf53_9 : decode cJ9_max_7cf53 9 = .ok (.iload_n 1, 1) := by decide +kernel
theorem dJ9_max_7cf53_10 : decode cJ9_max_7cf53 10 = .ok (.ireturn, 1) := by decide +kernel
theorem dJ9_min_7cf53_0 : decode cJ9_min_7cf53 0 = .ok (.iload_n 0, 1) := by decide +kernel
theorem dJ9_min_7cf53_1 : decode cJ9_min_7cf53 1 = .ok (.iload_n 1, 1) := by decide +kernel
theorem dJ9_min_7cf53_2 : decode cJ9_min_7cf53 2 = .ok (.if_icmp .gt 7, 3) := by decide +kernel
theorem dJ9_min_7cf53_5 : decode cJ9_min_7cf53 5 = .ok (.iload_n 0, 1) := by decide +kernel
theorem dJ9_min_7cf53_6 : decode cJ9_min_7cf53 6 = .ok (.goto 4, 3) := by decide +kernel
theorem dJ9_min_7cf53_9 : decode cJ9_min_7cf53 9 = .ok (.iload_n 1, 1) := by decide +kernel
theorem dJ9_min_7cf53_10 : decode cJ9_min_7cf53 10 = .ok (.ireturn, 1) := by decide +kernel
set_option maxRecDepth 20000 in
theorem ggJ0_length_8abf5_J0_coder_7d493 : GoodIn wsJ0_length_8abf5 wsJ0_coder_7d493 := goodIn_r _ [6, 7, 8] rfl (by decide +kernel)
set_option maxRecDepth 20000 in
theorem gJ0_length_8abf5_J0_coder_7d493 : GoodIn wsJ0_length_8abf5 (wsV RJ0 335 RJ0 yJ0_coder_7d493 wsJ0_coder_7d493) := goodIn_app (goodIn_r _ [2, 3, 4, 5] rfl (by decide +kernel)) ggJ0_length_8abf5_J0_coder_7d493
theorem dJ0_length_8abf5_0 : decode cJ0_length_8abf5 0 = .ok (.aload_n 0, 1) := by decide +kernel
theorem dJ0_length_8abf5_1 : decode cJ0_length_8abf5 1 = .ok (.getfield 9, 3) := by decide +kernel
theorem dJ0_length_8abf5_4 : decode cJ0_length_8abf5 4 = .ok (.arraylength, 1) := by decide +kernel
theorem dJ0_length_8abf5_5 : decode cJ0_length_8abf5 5 = .ok (.aload_n 0, 1) := by decide +kernel
theorem dJ0_length_8abf5_6 : decode cJ0_length_8abf5 6 = .ok (.invokevirtual 335, 3) := by decide +kernel
theorem dJ0_length_8abf5_9 : decode cJ0_length_8abf5 9 = .ok (.ishr, 1) := by decide +kernel
theorem dJ0_length_8abf5_10 : decode cJ0_length_8abf5 10 = .ok (.ireturn, 1) := by decide +kernel
set_option maxRecDepth 20000 in
theorem ggJ0_charAt_5068e_J0_isLatin1_aae02 : GoodIn wsJ0_charAt_5068e wsJ0_isLatin1_aae02 := goodIn_r _ [6, 7, 8] rfl (by decide +kernel)
set_option maxRecDepth 20000 in
theorem gJ0_charAt_5068e_J0_isLatin1_aae02 : GoodIn wsJ0_charAt_5068e (wsV RJ0 492 RJ0 yJ0_isLatin1_aae02 wsJ0_isLatin1_aae02) := goodIn_app (goodIn_r _ [2, 3, 4, 5] rfl (by decide +kernel)) ggJ0_charAt_5068e_J0_isLatin1_aae02
set_option maxRecDepth 20000 in
theorem ggJ0_charAt_5068e_J1_charAt_3b067 : GoodIn wsJ0_charAt_5068e wsJ1_charAt_3b067 := goodIn_r _ [12, 13, 14, 5, 15, 16, 17, 18, 19, 20] rfl (by decide +kernel)
set_option maxRecDepth 20000 in
theorem gJ0_charAt_5068e_J1_charAt_3b067 : GoodIn wsJ0_charAt_5068e (va_wsS RJ0 495 yJ1_charAt_3b067 wsJ1_charAt_3b067) := goodIn_app (goodIn_r _ [9, 10, 11] rfl (by decide +kernel)) ggJ0_charAt_5068e_J1_charAt_3b067
set_option maxRecDepth 20000 in
theorem ggJ0_charAt_5068e_J2_charAt_3b067 : GoodIn wsJ0_charAt_5068e wsJ2_charAt_3b067 := goodIn_r _ [24, 25, 26, 23, 27, 28, 29, 30, 31, 14, 5, 15, 16, 17, 18, 19, 20, 32, 33, 34, 35, 36, 37] rfl (by decide +kernel)
set_option maxRecDepth 20000 in
theorem gJ0_charAt_5068e_J2_charAt_3b067 : GoodIn wsJ0_charAt_5068e (va_wsS RJ0 498 yJ2_charAt_3b067 wsJ2_charAt_3b067) := goodIn_app (goodIn_r _ [21, 22, 23] rfl (by decide +kernel)) ggJ0_charAt_5068e_J2_charAt_3b067
theorem dJ0_charAt_5068e_0 : decode cJ0_charAt_5068e 0 = .ok (.aload_n 0, 1) := by decide +kernel
theorem dJ0_charAt_5068e_1 : decode cJ0_charAt_5068e 1 = .ok (.invokevirtual 492, 3) := by decide +kernel
theorem dJ0_charAt_5068e_4 : decode cJ0_charAt_5068e 4 = .ok (.ifCond .eq 12, 3) := by decide +kernel
theorem dJ0_charAt_5068e_7 : decode cJ0_charAt_5068e 7 = .ok (.aload_n 0, 1) := by decide +kernel
theorem dJ0_charAt_5068e_8 : decode cJ0_charAt_5068e 8 = .ok (.getfield 9, 3) := by decide +kernel
theorem dJ0_charAt_5068e_11 : decode cJ0_charAt_5068e 11 = .ok (.iload_n 1, 1) := by decide +kernel
theorem dJ0_charAt_5068e_12 : decode cJ0_charAt_5068e 12 = .ok (.invokestatic 495, 3) := by decide +kernel
theorem dJ0_charAt_5068e_15 : decode cJ0_charAt_5068e 15 = .ok (.ireturn, 1) := by decide +kernel
theorem dJ0_charAt_5068e_16 : decode cJ0_charAt_5068e 16 = .ok (.aload_n 0, 1) := by decide +kernel
theorem dJ0_charAt_5068e_17 : decode cJ0_charAt_5068e 17 = .ok (.getfield 9, 3) := by decide +kernel
theorem dJ0_charAt_5068e_20 : decode cJ0_charAt_5068e 20 = .ok (.iload_n 1, 1) := by decide +kernel
theorem dJ0_charAt_5068e_21 : decode cJ0_charAt_5068e 21 = .ok (.invokestatic 498, 3) := by decide +kernel
theorem dJ0_charAt_5068e_24 : decode cJ0_charAt_5068e 24 = .ok (.ireturn, 1) := by decide +kernel
theorem dJ0_coder_7d493_0 : decode cJ0_coder_7d493 0 = .ok (.getstatic 38, 3) := by decide +kernel
theorem dJ0_coder_7d493_3 : decode cJ0_coder_7d493 3 = .ok (.ifCond .eq 10, 3) := by decide +kernel
theorem dJ0_coder_7d493_6 : decode cJ0_coder_7d493 6 = .ok (.aload_n 0, 1) := by decide +kernel
theorem dJ0_coder_7d493_7 : decode cJ0_coder_7d493 7 = .ok (.getfield 15, 3) := by decide +kernel
theorem dJ0_coder_7d493_10 : decode cJ0_coder_7d493 10 = .ok (.goto 4, 3) := by decide +kernel
theorem dJ0_coder_7d493_13 : decode cJ0_coder_7d493 13 = .ok (.iconst 1, 1) := by decide +kernel
theorem dJ0_coder_7d493_14 : decode cJ0_coder_7d493 14 = .ok (.ireturn, 1) := by decide +kernel
theorem dJ0_isLatin1_aae02_0 : decode cJ0_isLatin1_aae02 0 = .ok (.getstatic 38, 3) := by decide +kernel
theorem dJ0_isLatin1_aae02_3 : decode cJ0_isLatin1_aae02 3 = .ok (.ifCond .eq 14, 3) := by decide +kernel
theorem dJ0_isLatin1_aae02_6 : decode cJ0_isLatin1_aae02 6 = .ok (.aload_n 0, 1) := by decide +kernel
theorem dJ0_isLatin1_aae02_7 : decode cJ0_isLatin1_aae02 7 = .ok (.getfield 15, 3) := by decide +kernel
theorem dJ0_isLatin1_aae02_10 : decode cJ0_isLatin1_aae02 10 = .ok (.ifCond .ne 7, 3) := by decide +kernel
theorem dJ0_isLatin1_aae02_13 : decode cJ0_isLatin1_aae02 13 = .ok (.iconst 1, 1) := by decide +kernel
theorem dJ0_isLatin1_aae02_14 : decode cJ0_isLatin1_aae02 14 = .ok (.goto 4, 3) := by decide +kernel
theorem dJ0_isLatin1_aae02_17 : decode cJ0_isLatin1_aae02 17 = .ok (.iconst 0, 1) := by decide +kernel
theorem dJ0_isLatin1_aae02_18 : decode cJ0_isLatin1_aae02 18 = .ok (.ireturn, 1) := by decide +kernel
set_option maxRecDepth 20000 in
theorem ggJ0_checkIndex_df160_J3_checkIndex_8e157 : GoodIn wsJ0_checkIndex_df160 wsJ3_checkIndex_8e157 := goodIn_r _ [5] rfl (by decide +kernel)
set_option maxRecDepth 20000 in
theorem gJ0_checkIndex_df160_J3_checkIndex_8e157 : GoodIn wsJ0_checkIndex_df160 (va_wsS RJ0 1059 yJ3_checkIndex_8e157 wsJ3_checkIndex_8e157) := goodIn_app (goodIn_r _ [2, 3, 4] rfl (by decide +kernel)) ggJ0_checkIndex_df160_J3_checkIndex_8e157
theorem dJ0_checkIndex_df160_0 : decode cJ0_checkIndex_df160 0 = .ok (.iload_n 0, 1) := by decide +kernel
theorem dJ0_checkIndex_df160_1 : decode cJ0_checkIndex_df160 1 = .ok (.iload_n 1, 1) := by decide +kernel
theorem dJ0_checkIndex_df160_2 : decode cJ0_checkIndex_df160 2 = .ok (.getstatic 1053, 3) := by decide +kernel
theorem dJ0_checkIndex_df160_5 : decode cJ0_checkIndex_df160 5 = .ok (.invokestatic 1059, 3) := by decide +kernel
theorem dJ0_checkIndex_df160_8 : decode cJ0_checkIndex_df160 8 = .ok (.pop, 1) := by decide +kernel
theorem dJ0_checkIndex_df160_9 : decode cJ0_checkIndex_df160 9 = .ok (.return_, 1) := by decide +kernel
set_option maxRecDepth 20000 in
theorem ggJ1_charAt_3b067_J0_checkIndex_df160 : GoodIn wsJ1_charAt_3b067 wsJ0_checkIndex_df160 := goodIn_r _ [4, 5, 6, 7, 8, 9] rfl (by decide +kernel)
set_option maxRecDepth 20000 in
theorem gJ1_charAt_3b067_J0_checkIndex_df160 : GoodIn wsJ1_charAt_3b067 (va_wsS RJ1 9 yJ0_checkIndex_df160 wsJ0_checkIndex_df160) := goodIn_app (goodIn_r _ [1, 2, 3] rfl (by decide +kernel)) ggJ1_charAt_3b067_J0_checkIndex_df160
theorem dJ1_charAt_3b067_0 : decode cJ1_charAt_3b067 0 = .ok (.iload_n 1, 1) := by decide +kernel
theorem dJ1_charAt_3b067_1 : decode cJ1_charAt_3b067 1 = .ok (.aload_n 0, 1) := by decide +kernel
theorem dJ1_charAt_3b067_2 : decode cJ1_charAt_3b067 2 = .ok (.arraylength, 1) := by decide +kernel
theorem dJ1_charAt_3b067_3 : decode cJ1_charAt_3b067 3 = .ok (.invokestatic 9, 3) := by decide +kernel
theorem dJ1_charAt_3b067_6 : decode cJ1_charAt_3b067 6 = .ok (.aload_n 0, 1) := by decide +kernel
theorem dJ1_charAt_3b067_7 : decode cJ1_charAt_3b067 7 = .ok (.iload_n 1, 1) := by decide +kernel
theorem dJ1_charAt_3b067_8 : decode cJ1_charAt_3b067 8 = .ok (.baload, 1) := by decide +kernel
theorem dJ1_charAt_3b067_9 : decode cJ1_charAt_3b067 9 = .ok (.sipush 255, 3) := by decide +kernel
theorem dJ1_charAt_3b067_12 : decode cJ1_charAt_3b067 12 = .ok (.iand, 1) := by decide +kernel
theorem dJ1_charAt_3b067_13 : decode cJ1_charAt_3b067 13 = .ok (.i2c, 1) := by decide +kernel
theorem dJ1_charAt_3b067_14 : decode cJ1_charAt_3b067 14 = .ok (.ireturn, 1) := by decide +kernel
set_option maxRecDepth 20000 in
theorem ggJ2_getChar_3b067_J2_length_9d52b : GoodIn wsJ2_getChar_3b067 wsJ2_length_9d52b := goodIn_r _ [7] rfl (by decide +kernel)
set_option maxRecDepth 20000 in
theorem gJ2_getChar_3b067_J2_length_9d52b : GoodIn wsJ2_getChar_3b067 (va_wsS RJ2 48 yJ2_length_9d52b wsJ2_length_9d52b) := goodIn_app (goodIn_r _ [4, 5, 6] rfl (by decide +kernel)) ggJ2_getChar_3b067_J2_length_9d52b
theorem dJ2_getChar_3b067_0 : decode cJ2_getChar_3b067 0 = .ok (.getstatic 44, 3) := by decide +kernel
theorem dJ2_getChar_3b067_3 : decode cJ2_getChar_3b067 3 = .ok (.ifCond .ne 25, 3) := by decide +kernel
theorem dJ2_getChar_3b067_6 : decode cJ2_getChar_3b067 6 = .ok (.iload_n 1, 1) := by decide +kernel
theorem dJ2_getChar_3b067_7 : decode cJ2_getChar_3b067 7 = .ok (.ifCond .lt 11, 3) := by decide +kernel
theorem dJ2_getChar_3b067_10 : decode cJ2_getChar_3b067 10 = .ok (.iload_n 1, 1) := by decide +kernel
theorem dJ2_getChar_3b067_11 : decode cJ2_getChar_3b067 11 = .ok (.aload_n 0, 1) := by decide +kernel
theorem dJ2_getChar_3b067_12 : decode cJ2_getChar_3b067 12 = .ok (.invokestatic 48, 3) := by decide +kernel
theorem dJ2_getChar_3b067_15 : decode cJ2_getChar_3b067 15 = .ok (.if_icmp .lt 13, 3) := by decide +kernel
theorem dJ2_getChar_3b067_18 : decode cJ2_getChar_3b067 18 = .ok (.new 52, 3) := by decide +kernel
theorem dJ2_getChar_3b067_21 : decode cJ2_getChar_3b067 21 = .ok (.dup, 1) := by decide +kernel
theorem dJ2_getChar_3b067_22 : decode cJ2_getChar_3b067 22 = .ok (.ldc 54, 2) := by decide +kernel
theorem dJ2_getChar_3b067_24 : decode cJ2_getChar_3b067 24 = .ok (.invokespecial 56, 3) := by decide +kernel
theorem dJ2_getChar_3b067_27 : decode cJ2_getChar_3b067 27 = .ok (.athrow, 1) := by decide +kernel
theorem dJ2_getChar_3b067_28 : decode cJ2_getChar_3b067 28 = .ok (.iload_n 1, 1) := by decide +kernel
theorem dJ2_getChar_3b067_29 : decode cJ2_getChar_3b067 29 = .ok (.iconst 1, 1) := by decide +kernel
theorem dJ2_getChar_3b067_30 : decode cJ2_getChar_3b067 30 = .ok (.ishl, 1) := by decide +kernel
theorem dJ2_getChar_3b067_31 : decode cJ2_getChar_3b067 31 = .ok (.istore_n 1, 1) := by decide +kernel
theorem dJ2_getChar_3b067_32 : decode cJ2_getChar_3b067 32 = .ok (.aload_n 0, 1) := by decide +kernel
theorem dJ2_getChar_3b067_33 : decode cJ2_getChar_3b067 33 = .ok (.iload_n 1, 1) := by decide +kernel
theorem dJ2_getChar_3b067_34 : decode cJ2_getChar_3b067 34 = .ok (.iinc 1 1, 3) := by decide +kernel
theorem dJ2_getChar_3b067_37 : decode cJ2_getChar_3b067 37 = .ok (.baload, 1) := by decide +kernel
theorem dJ2_getChar_3b067_38 : decode cJ2_getChar_3b067 38 = .ok (.sipush 255, 3) := by decide +kernel
theorem dJ2_getChar_3b067_41 : decode cJ2_getChar_3b067 41 = .ok (.iand, 1) := by decide +kernel
theorem dJ2_getChar_3b067_42 : decode cJ2_getChar_3b067 42 = .ok (.getstatic 59, 3) := by decide +kernel
theorem dJ2_getChar_3b067_45 : decode cJ2_getChar_3b067 45 = .ok (.ishl, 1) := by decide +kernel
theorem dJ2_getChar_3b067_46 : decode cJ2_getChar_3b067 46 = .ok (.aload_n 0, 1) := by decide +kernel
theorem dJ2_getChar_3b067_47 : decode cJ2_getChar_3b067 47 = .ok (.iload_n 1, 1) := by decide +kernel
theorem dJ2_getChar_3b067_48 : decode cJ2_getChar_3b067 48 = .ok (.baload, 1) := by decide +kernel
theorem dJ2_getChar_3b067_49 : decode cJ2_getChar_3b067 49 = .ok (.sipush 255, 3) := by decide +kernel
theorem dJ2_getChar_3b067_52 : decode cJ2_getChar_3b067 52 = .ok (.iand, 1) := by decide +kernel
theorem dJ2_getChar_3b067_53 : decode cJ2_getChar_3b067 53 = .ok (.getstatic 63, 3) := by decide +kernel
theorem dJ2_getChar_3b067_56 : decode cJ2_getChar_3b067 56 = .ok (.ishl, 1) := by decide +kernel
theorem dJ2_getChar_3b067_57 : decode cJ2_getChar_3b067 57 = .ok (.ior, 1) := by decide +kernel
theorem dJ2_getChar_3b067_58 : decode cJ2_getChar_3b067 58 = .ok (.i2c, 1) := by decide +kernel
theorem dJ2_getChar_3b067_59 : decode cJ2_getChar_3b067 59 = .ok (.ireturn, 1) := by decide +kernel
theorem dJ2_length_9d52b_0 : decode cJ2_length_9d52b 0 = .ok (.aload_n 0, 1) := by decide +kernel
theorem dJ2_length_9d52b_1 : decode cJ2_length_9d52b 1 = .ok (.arraylength, 1) := by decide +kernel
theorem dJ2_length_9d52b_2 : decode cJ2_length_9d52b 2 = .ok (.iconst 1, 1) := by decide +kernel
theorem dJ2_length_9d52b_3 : decode cJ2_length_9d52b 3 = .ok (.ishr, 1) := by decide +kernel
theorem dJ2_length_9d52b_4 : decode cJ2_length_9d52b 4 = .ok (.ireturn, 1) := by decide +kernel
set_option maxRecDepth 20000 in
theorem ggJ2_charAt_3b067_J2_checkIndex_2214a : GoodIn wsJ2_charAt_3b067 wsJ2_checkIndex_2214a := goodIn_r _ [4, 5, 6, 3, 7, 8, 9, 10, 11, 12, 13, 14, 15, 16] rfl (by decide +kernel)
set_option maxRecDepth 20000 in
theorem gJ2_charAt_3b067_J2_checkIndex_2214a : GoodIn wsJ2_charAt_3b067 (va_wsS RJ2 67 yJ2_checkIndex_2214a wsJ2_checkIndex_2214a) := goodIn_app (goodIn_r _ [1, 2, 3] rfl (by decide +kernel)) ggJ2_charAt_3b067_J2_checkIndex_2214a
set_option maxRecDepth 20000 in
theorem ggJ2_charAt_3b067_J2_getChar_3b067 : GoodIn wsJ2_charAt_3b067 wsJ2_getChar_3b067 := goodIn_r _ [19, 20, 21, 22, 5, 6, 3, 7] rfl (by decide +kernel)
set_option maxRecDepth 20000 in
theorem gJ2_charAt_3b067_J2_getChar_3b067 : GoodIn wsJ2_charAt_3b067 (va_wsS RJ2 71 yJ2_getChar_3b067 wsJ2_getChar_3b067) := goodIn_app (goodIn_r _ [17, 18, 3] rfl (by decide +kernel)) ggJ2_charAt_3b067_J2_getChar_3b067
theorem dJ2_charAt_3b067_0 : decode cJ2_charAt_3b067 0 = .ok (.iload_n 1, 1) := by decide +kernel
theorem dJ2_charAt_3b067_1 : decode cJ2_charAt_3b067 1 = .ok (.aload_n 0, 1) := by decide +kernel
theorem dJ2_charAt_3b067_2 : decode cJ2_charAt_3b067 2 = .ok (.invokestatic 67, 3) := by decide +kernel
theorem dJ2_charAt_3b067_5 : decode cJ2_charAt_3b067 5 = .ok (.aload_n 0, 1) := by decide +kernel
theorem dJ2_charAt_3b067_6 : decode cJ2_charAt_3b067 6 = .ok (.iload_n 1, 1) := by decide +kernel
theorem dJ2_charAt_3b067_7 : decode cJ2_charAt_3b067 7 = .ok (.invokestatic 71, 3) := by decide +kernel
theorem dJ2_charAt_3b067_10 : decode cJ2_charAt_3b067 10 = .ok (.ireturn, 1) := by decide +kernel
set_option maxRecDepth 20000 in
theorem ggJ2_checkIndex_2214a_J2_length_9d52b : GoodIn wsJ2_checkIndex_2214a wsJ2_length_9d52b := goodIn_r _ [4] rfl (by decide +kernel)
set_option maxRecDepth 20000 in
theorem gJ2_checkIndex_2214a_J2_length_9d52b : GoodIn wsJ2_checkIndex_2214a (va_wsS RJ2 48 yJ2_length_9d52b wsJ2_length_9d52b) := goodIn_app (goodIn_r _ [1, 2, 3] rfl (by decide +kernel)) ggJ2_checkIndex_2214a_J2_length_9d52b
set_option maxRecDepth 20000 in
theorem ggJ2_checkIndex_2214a_J0_checkIndex_df160 : GoodIn wsJ2_checkIndex_2214a wsJ0_checkIndex_df160 := goodIn_r _ [8, 9, 10, 11, 12, 13] rfl (by decide +kernel)
set_option maxRecDepth 20000 in
theorem gJ2_checkIndex_2214a_J0_checkIndex_df160 : GoodIn wsJ2_checkIndex_2214a (va_wsS RJ2 414 yJ0_checkIndex_df160 wsJ0_checkIndex_df160) := goodIn_app (goodIn_r _ [5, 6, 7] rfl (by decide +kernel)) ggJ2_checkIndex_2214a_J0_checkIndex_df160
theorem dJ2_checkIndex_2214a_0 : decode cJ2_checkIndex_2214a 0 = .ok (.iload_n 0, 1) := by decide +kernel
theorem dJ2_checkIndex_2214a_1 : decode cJ2_checkIndex_2214a 1 = .ok (.aload_n 1, 1) := by decide +kernel
theorem dJ2_checkIndex_2214a_2 : decode cJ2_checkIndex_2214a 2 = .ok (.invokestatic 48, 3) := by decide +kernel
theorem dJ2_checkIndex_2214a_5 : decode cJ2_checkIndex_2214a 5 = .ok (.invokestatic 414, 3) := by decide +kernel
theorem dJ2_checkIndex_2214a_8 : decode cJ2_checkIndex_2214a 8 = .ok (.return_, 1) := by decide +kernel
theorem dJ3_checkIndex_8e157_0 : decode cJ3_checkIndex_8e157 0 = .ok (.iload_n 0, 1) := by decide +kernel
theorem dJ3_checkIndex_8e157_1 : decode cJ3_checkIndex_8e157 1 = .ok (.ifCond .lt 8, 3) := by decide +kernel
theorem dJ3_checkIndex_8e157_4 : decode cJ3_checkIndex_8e157 4 = .ok (.iload_n 0, 1) := by decide +kernel
theorem dJ3_checkIndex_8e157_5 : decode cJ3_checkIndex_8e157 5 = .ok (.iload_n 1, 1) := by decide +kernel
theorem dJ3_checkIndex_8e157_6 : decode cJ3_checkIndex_8e157 6 = .ok (.if_icmp .lt 10, 3) := by decide +kernel
theorem dJ3_checkIndex_8e157_9 : decode cJ3_checkIndex_8e157 9 = .ok (.aload_n 2, 1) := by decide +kernel
theorem dJ3_checkIndex_8e157_10 : decode cJ3_checkIndex_8e157 10 = .ok (.iload_n 0, 1) := by decide +kernel
theorem dJ3_checkIndex_8e157_11 : decode cJ3_checkIndex_8e157 11 = .ok (.iload_n 1, 1) := by decide +kernel
theorem dJ3_checkIndex_8e157_12 : decode cJ3_checkIndex_8e157 12 = .ok (.invokestatic 95, 3) := by decide +kernel
theorem dJ3_checkIndex_8e157_15 : decode cJ3_checkIndex_8e157 15 = .ok (.athrow, 1) := by decide +kernel
theorem dJ3_checkIndex_8e157_16 : decode cJ3_checkIndex_8e157 16 = .ok (.iload_n 0, 1) := by decide +kernel
theorem dJ3_checkIndex_8e157_17 : decode cJ3_checkIndex_8e157 17 = .ok (.ireturn, 1) := by decide +kernel
