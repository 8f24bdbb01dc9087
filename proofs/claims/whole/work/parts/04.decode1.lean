set_option maxRecDepth 20000 in
theorem ggX0_init_X7_init : GoodIn wsX0_init wsX7_init := goodIn_r _ [21, 22, 2, 3, 4, 23, 24, 46, 47] rfl (by decide +kernel)
set_option maxRecDepth 20000 in
theorem gX0_init_X7_init_n23 : GoodIn wsX0_init (wsX7_init) := ggX0_init_X7_init
set_option maxRecDepth 20000 in
theorem ggX0_init_X6_init : GoodIn wsX0_init wsX6_init := goodIn_r _ [27, 28, 2, 3, 4, 29, 30, 31, 48, 49, 50, 51] rfl (by decide +kernel)
set_option maxRecDepth 20000 in
theorem gX0_init_X6_init : GoodIn wsX0_init (wsX6_init) := ggX0_init_X6_init
theorem dX0_init_0 : decode cX0_init 0 = .ok (.aload_n 0, 1) := by decide +kernel
theorem dX0_init_1 : decode cX0_init 1 = .ok (.invokespecial 3, 3) := by decide +kernel
theorem dX0_init_4 : decode cX0_init 4 = .ok (.aload_n 0, 1) := by decide +kernel
theorem dX0_init_5 : decode cX0_init 5 = .ok (.sipush 200, 3) := by decide +kernel
theorem dX0_init_8 : decode cX0_init 8 = .ok (.newarray .int, 2) := by decide +kernel
theorem dX0_init_10 : decode cX0_init 10 = .ok (.putfield 9, 3) := by decide +kernel
theorem dX0_init_13 : decode cX0_init 13 = .ok (.aload_n 0, 1) := by decide +kernel
theorem dX0_init_14 : decode cX0_init 14 = .ok (.sipush 200, 3) := by decide +kernel
theorem dX0_init_17 : decode cX0_init 17 = .ok (.newarray .int, 2) := by decide +kernel
theorem dX0_init_19 : decode cX0_init 19 = .ok (.putfield 15, 3) := by decide +kernel
theorem dX0_init_22 : decode cX0_init 22 = .ok (.aload_n 0, 1) := by decide +kernel
theorem dX0_init_23 : decode cX0_init 23 = .ok (.sipush 200, 3) := by decide +kernel
theorem dX0_init_26 : decode cX0_init 26 = .ok (.newarray .int, 2) := by decide +kernel
theorem dX0_init_28 : decode cX0_init 28 = .ok (.putfield 18, 3) := by decide +kernel
theorem dX0_init_31 : decode cX0_init 31 = .ok (.aload_n 0, 1) := by decide +kernel
theorem dX0_init_32 : decode cX0_init 32 = .ok (.new 21, 3) := by decide +kernel
theorem dX0_init_35 : decode cX0_init 35 = .ok (.dup, 1) := by decide +kernel
theorem dX0_init_36 : decode cX0_init 36 = .ok (.invokespecial 23, 3) := by decide +kernel
theorem dX0_init_39 : decode cX0_init 39 = .ok (.putfield 24, 3) := by decide +kernel
theorem dX0_init_42 : decode cX0_init 42 = .ok (.aload_n 0, 1) := by decide +kernel
theorem dX0_init_43 : decode cX0_init 43 = .ok (.bipush 16, 2) := by decide +kernel
theorem dX0_init_45 : decode cX0_init 45 = .ok (.newarray .int, 2) := by decide +kernel
theorem dX0_init_47 : decode cX0_init 47 = .ok (.putfield 28, 3) := by decide +kernel
theorem dX0_init_50 : decode cX0_init 50 = .ok (.aload_n 0, 1) := by decide +kernel
theorem dX0_init_51 : decode cX0_init 51 = .ok (.iconst 4, 1) := by decide +kernel
theorem dX0_init_52 : decode cX0_init 52 = .ok (.newarray .int, 2) := by decide +kernel
theorem dX0_init_54 : decode cX0_init 54 = .ok (.putfield 31, 3) := by decide +kernel
theorem dX0_init_57 : decode cX0_init 57 = .ok (.aload_n 0, 1) := by decide +kernel
theorem dX0_init_58 : decode cX0_init 58 = .ok (.new 34, 3) := by decide +kernel
theorem dX0_init_61 : decode cX0_init 61 = .ok (.dup, 1) := by decide +kernel
theorem dX0_init_62 : decode cX0_init 62 = .ok (.iconst 0, 1) := by decide +kernel
theorem dX0_init_63 : decode cX0_init 63 = .ok (.invokespecial 36, 3) := by decide +kernel
theorem dX0_init_66 : decode cX0_init 66 = .ok (.putfield 39, 3) := by decide +kernel
theorem dX0_init_69 : decode cX0_init 69 = .ok (.aload_n 0, 1) := by decide +kernel
theorem dX0_init_70 : decode cX0_init 70 = .ok (.new 34, 3) := by decide +kernel
theorem dX0_init_73 : decode cX0_init 73 = .ok (.dup, 1) := by decide +kernel
theorem dX0_init_74 : decode cX0_init 74 = .ok (.iconst 1, 1) := by decide +kernel
theorem dX0_init_75 : decode cX0_init 75 = .ok (.invokespecial 36, 3) := by decide +kernel
theorem dX0_init_78 : decode cX0_init 78 = .ok (.putfield 43, 3) := by decide +kernel
theorem dX0_init_81 : decode cX0_init 81 = .ok (.aload_n 0, 1) := by decide +kernel
theorem dX0_init_82 : decode cX0_init 82 = .ok (.new 34, 3) := by decide +kernel
theorem dX0_init_85 : decode cX0_init 85 = .ok (.dup, 1) := by decide +kernel
theorem dX0_init_86 : decode cX0_init 86 = .ok (.iconst 2, 1) := by decide +kernel
theorem dX0_init_87 : decode cX0_init 87 = .ok (.invokespecial 36, 3) := by decide +kernel
theorem dX0_init_90 : decode cX0_init 90 = .ok (.putfield 46, 3) := by decide +kernel
theorem dX0_init_93 : decode cX0_init 93 = .ok (.return_, 1) := by decide +kernel
theorem dX0_has_0 : decode cX0_has 0 = .ok (.iload_n 1, 1) := by decide +kernel
theorem dX0_has_1 : decode cX0_has 1 = .ok (.ifCond .lt 15, 3) := by decide +kernel
theorem dX0_has_4 : decode cX0_has 4 = .ok (.iload_n 1, 1) := by decide +kernel
theorem dX0_has_5 : decode cX0_has 5 = .ok (.aload_n 0, 1) := by decide +kernel
theorem dX0_has_6 : decode cX0_has 6 = .ok (.getfield 49, 3) := by decide +kernel
theorem dX0_has_9 : decode cX0_has 9 = .ok (.if_icmp .ge 7, 3) := by decide +kernel
theorem dX0_has_12 : decode cX0_has 12 = .ok (.iconst 1, 1) := by decide +kernel
theorem dX0_has_13 : decode cX0_has 13 = .ok (.goto 4, 3) := by decide +kernel
theorem dX0_has_16 : decode cX0_has 16 = .ok (.iconst 0, 1) := by decide +kernel
theorem dX0_has_17 : decode cX0_has 17 = .ok (.ireturn, 1) := by decide +kernel
set_option maxRecDepth 20000 in
theorem ggX0_read_X7_readKey : GoodIn wsX0_read wsX7_readKey := goodIn_r _ [8, 9, 10, 25, 26] rfl (by decide +kernel)
set_option maxRecDepth 20000 in
theorem gX0_read_X7_readKey : GoodIn wsX0_read (wsV RX0 56 RX7 yX7_readKey wsX7_readKey) := goodIn_app (goodIn_r _ [4, 5, 6, 7] rfl (by decide +kernel)) ggX0_read_X7_readKey
theorem dX0_read_0 : decode cX0_read 0 = .ok (.aload_n 0, 1) := by decide +kernel
theorem dX0_read_1 : decode cX0_read 1 = .ok (.getfield 24, 3) := by decide +kernel
theorem dX0_read_4 : decode cX0_read 4 = .ok (.aload_n 0, 1) := by decide +kernel
theorem dX0_read_5 : decode cX0_read 5 = .ok (.getfield 9, 3) := by decide +kernel
theorem dX0_read_8 : decode cX0_read 8 = .ok (.iload_n 1, 1) := by decide +kernel
theorem dX0_read_9 : decode cX0_read 9 = .ok (.iaload, 1) := by decide +kernel
theorem dX0_read_10 : decode cX0_read 10 = .ok (.aload_n 0, 1) := by decide +kernel
theorem dX0_read_11 : decode cX0_read 11 = .ok (.getfield 53, 3) := by decide +kernel
theorem dX0_read_14 : decode cX0_read 14 = .ok (.invokevirtual 56, 3) := by decide +kernel
theorem dX0_read_17 : decode cX0_read 17 = .ok (.aload_n 0, 1) := by decide +kernel
theorem dX0_read_18 : decode cX0_read 18 = .ok (.getfield 24, 3) := by decide +kernel
theorem dX0_read_21 : decode cX0_read 21 = .ok (.areturn, 1) := by decide +kernel
set_option maxRecDepth 20000 in
theorem ggX0_build_X0_loadInverse : GoodIn wsX0_build wsX0_loadInverse := goodIn_r _ [10, 11, 2, 12, 13, 14, 15, 16, 17, 18, 19, 20, 21, 22, 23, 24, 25, 26, 27, 28, 29, 30, 31, 132, 133, 118, 119, 120, 121, 122, 123, 124, 125, 126, 127, 128, 129, 130, 131] rfl (by decide +kernel)
set_option maxRecDepth 20000 in
theorem gX0_build_X0_loadInverse : GoodIn wsX0_build (wsV RX0 60 RX0 yX0_loadInverse wsX0_loadInverse) := goodIn_app (goodIn_r _ [6, 7, 8, 9] rfl (by decide +kernel)) ggX0_build_X0_loadInverse
set_option maxRecDepth 20000 in
theorem ggX0_build_X7_squareKey : GoodIn wsX0_build wsX7_squareKey := goodIn_r _ [35, 36, 37, 34, 38, 39, 40, 41] rfl (by decide +kernel)
set_option maxRecDepth 20000 in
theorem gX0_build_X7_squareKey : GoodIn wsX0_build (va_wsS RX0 70 yX7_squareKey wsX7_squareKey) := goodIn_app (goodIn_r _ [32, 33, 34] rfl (by decide +kernel)) ggX0_build_X7_squareKey
set_option maxRecDepth 20000 in
theorem ggX0_build_X0_admit : GoodIn wsX0_build wsX0_admit := goodIn_r _ [45, 1, 46, 4, 47, 48, 49, 9, 50, 118, 119, 120, 121, 122, 123, 124, 125, 126, 127, 128, 129, 130, 131] rfl (by decide +kernel)
set_option maxRecDepth 20000 in
theorem gX0_build_X0_admit : GoodIn wsX0_build (wsV RX0 74 RX0 yX0_admit wsX0_admit) := goodIn_app (goodIn_r _ [42, 43, 44, 9] rfl (by decide +kernel)) ggX0_build_X0_admit
set_option maxRecDepth 20000 in
theorem ggX0_build_X7_readKey : GoodIn wsX0_build wsX7_readKey := goodIn_r _ [54, 55, 56, 134, 135] rfl (by decide +kernel)
set_option maxRecDepth 20000 in
theorem gX0_build_X7_readKey : GoodIn wsX0_build (wsV RX0 56 RX7 yX7_readKey wsX7_readKey) := goodIn_app (goodIn_r _ [51, 52, 53, 34] rfl (by decide +kernel)) ggX0_build_X7_readKey
set_option maxRecDepth 20000 in
theorem ggX0_build_X0_admitParents : GoodIn wsX0_build wsX0_admitParents := goodIn_r _ [60, 61, 3, 62, 13, 63, 64, 65, 66, 67, 68, 9, 69, 70, 71, 72, 73, 74, 75, 76, 77, 78, 79, 80, 81, 82, 83, 84, 85, 86, 87, 88, 89, 34, 90, 91, 92, 93, 94, 95, 96, 97, 98, 99, 100, 101, 102, 103, 104, 105, 106, 107, 12, 108, 2, 109, 110, 37, 38, 111, 40, 41, 42, 43, 44, 45, 1, 46, 4, 47, 48, 49, 50, 118, 119, 120, 121, 122, 123, 124, 125, 126, 127, 128, 129, 130, 131, 134, 135, 136, 137, 138, 139, 140, 141, 142, 143, 144, 145, 146, 147] rfl (by decide +kernel)
set_option maxRecDepth 20000 in
theorem gX0_build_X0_admitParents : GoodIn wsX0_build (wsV RX0 78 RX0 yX0_admitParents wsX0_admitParents) := goodIn_app (goodIn_r _ [57, 58, 59, 9] rfl (by decide +kernel)) ggX0_build_X0_admitParents
set_option maxRecDepth 20000 in
theorem ggX0_build_X0_remember : GoodIn wsX0_build wsX0_remember := goodIn_r _ [115, 1, 5, 2, 116, 117, 46, 118, 119, 120, 121, 122, 123, 124, 125, 126, 127, 128, 129, 130, 131] rfl (by decide +kernel)
set_option maxRecDepth 20000 in
theorem gX0_build_X0_remember : GoodIn wsX0_build (wsV RX0 82 RX0 yX0_remember wsX0_remember) := goodIn_app (goodIn_r _ [112, 113, 114, 9] rfl (by decide +kernel)) ggX0_build_X0_remember
theorem dX0_build_0 : decode cX0_build 0 = .ok (.aload_n 0, 1) := by decide +kernel
theorem dX0_build_1 : decode cX0_build 1 = .ok (.aload_n 2, 1) := by decide +kernel
theorem dX0_build_2 : decode cX0_build 2 = .ok (.invokevirtual 60, 3) := by decide +kernel
theorem dX0_build_5 : decode cX0_build 5 = .ok (.aload_n 0, 1) := by decide +kernel
theorem dX0_build_6 : decode cX0_build 6 = .ok (.iconst 0, 1) := by decide +kernel
theorem dX0_build_7 : decode cX0_build 7 = .ok (.putfield 64, 3) := by decide +kernel
theorem dX0_build_10 : decode cX0_build 10 = .ok (.aload_n 0, 1) := by decide +kernel
theorem dX0_build_11 : decode cX0_build 11 = .ok (.aload_n 0, 1) := by decide +kernel
theorem dX0_build_12 : decode cX0_build 12 = .ok (.getfield 67, 3) := by decide +kernel
theorem dX0_build_15 : decode cX0_build 15 = .ok (.invokestatic 70, 3) := by decide +kernel
theorem dX0_build_18 : decode cX0_build 18 = .ok (.invokevirtual 74, 3) := by decide +kernel
theorem dX0_build_21 : decode cX0_build 21 = .ok (.pop, 1) := by decide +kernel
theorem dX0_build_22 : decode cX0_build 22 = .ok (.iconst 0, 1) := by decide +kernel
theorem dX0_build_23 : decode cX0_build 23 = .ok (.istore_n 3, 1) := by decide +kernel
theorem dX0_build_24 : decode cX0_build 24 = .ok (.iload_n 3, 1) := by decide +kernel
theorem dX0_build_25 : decode cX0_build 25 = .ok (.aload_n 0, 1) := by decide +kernel
theorem dX0_build_26 : decode cX0_build 26 = .ok (.getfield 64, 3) := by decide +kernel
theorem dX0_build_29 : decode cX0_build 29 = .ok (.if_icmp .ge 44, 3) := by decide +kernel
theorem dX0_build_32 : decode cX0_build 32 = .ok (.iload_n 3, 1) := by decide +kernel
theorem dX0_build_33 : decode cX0_build 33 = .ok (.sipush 200, 3) := by decide +kernel
theorem dX0_build_36 : decode cX0_build 36 = .ok (.if_icmp .ge 37, 3) := by decide +kernel
theorem dX0_build_39 : decode cX0_build 39 = .ok (.aload_n 0, 1) := by decide +kernel
theorem dX0_build_40 : decode cX0_build 40 = .ok (.getfield 24, 3) := by decide +kernel
theorem dX0_build_43 : decode cX0_build 43 = .ok (.aload_n 0, 1) := by decide +kernel
theorem dX0_build_44 : decode cX0_build 44 = .ok (.getfield 18, 3) := by decide +kernel
theorem dX0_build_47 : decode cX0_build 47 = .ok (.iload_n 3, 1) := by decide +kernel
theorem dX0_build_48 : decode cX0_build 48 = .ok (.iaload, 1) := by decide +kernel
theorem dX0_build_49 : decode cX0_build 49 = .ok (.aload_n 0, 1) := by decide +kernel
theorem dX0_build_50 : decode cX0_build 50 = .ok (.getfield 67, 3) := by decide +kernel
theorem dX0_build_53 : decode cX0_build 53 = .ok (.invokevirtual 56, 3) := by decide +kernel
theorem dX0_build_56 : decode cX0_build 56 = .ok (.aload_n 0, 1) := by decide +kernel
theorem dX0_build_57 : decode cX0_build 57 = .ok (.aload_n 1, 1) := by decide +kernel
theorem dX0_build_58 : decode cX0_build 58 = .ok (.invokevirtual 78, 3) := by decide +kernel
theorem dX0_build_61 : decode cX0_build 61 = .ok (.ifCond .ne 6, 3) := by decide +kernel
theorem dX0_build_64 : decode cX0_build 64 = .ok (.bipush (-4), 2) := by decide +kernel
theorem dX0_build_66 : decode cX0_build 66 = .ok (.ireturn, 1) := by decide +kernel
theorem dX0_build_67 : decode cX0_build 67 = .ok (.iinc 3 1, 3) := by decide +kernel
theorem dX0_build_70 : decode cX0_build 70 = .ok (.goto (-46), 3) := by decide +kernel
theorem dX0_build_73 : decode cX0_build 73 = .ok (.aload_n 0, 1) := by decide +kernel
theorem dX0_build_74 : decode cX0_build 74 = .ok (.invokevirtual 82, 3) := by decide +kernel
theorem dX0_build_77 : decode cX0_build 77 = .ok (.aload_n 0, 1) := by decide +kernel
theorem dX0_build_78 : decode cX0_build 78 = .ok (.getfield 49, 3) := by decide +kernel
theorem dX0_build_81 : decode cX0_build 81 = .ok (.ireturn, 1) := by decide +kernel
set_option maxRecDepth 20000 in
theorem ggX0_loadInverse_X2_wholeMinor : GoodIn wsX0_loadInverse wsX2_wholeMinor := goodIn_r _ [9, 10, 11, 12, 13, 14, 8, 15, 16, 17, 18, 23, 24] rfl (by decide +kernel)
set_option maxRecDepth 20000 in
theorem gX0_loadInverse_X2_wholeMinor : GoodIn wsX0_loadInverse (wsV RX0 88 RX2 yX2_wholeMinor wsX2_wholeMinor) := goodIn_app (goodIn_r _ [5, 6, 7, 8] rfl (by decide +kernel)) ggX0_loadInverse_X2_wholeMinor
set_option maxRecDepth 20000 in
theorem ggX0_loadInverse_X2_adjugate : GoodIn wsX0_loadInverse wsX2_adjugate := goodIn_r _ [22, 10, 11, 12, 13, 14, 8, 15, 16, 17, 18, 23, 24] rfl (by decide +kernel)
set_option maxRecDepth 20000 in
theorem gX0_loadInverse_X2_adjugate : GoodIn wsX0_loadInverse (wsV RX0 95 RX2 yX2_adjugate wsX2_adjugate) := goodIn_app (goodIn_r _ [19, 20, 21, 8] rfl (by decide +kernel)) ggX0_loadInverse_X2_adjugate
theorem dX0_loadInverse_0 : decode cX0_loadInverse 0 = .ok (.aload_n 0, 1) := by decide +kernel
theorem dX0_loadInverse_1 : decode cX0_loadInverse 1 = .ok (.aload_n 1, 1) := by decide +kernel
theorem dX0_loadInverse_2 : decode cX0_loadInverse 2 = .ok (.getfield 85, 3) := by decide +kernel
theorem dX0_loadInverse_5 : decode cX0_loadInverse 5 = .ok (.putfield 67, 3) := by decide +kernel
theorem dX0_loadInverse_8 : decode cX0_loadInverse 8 = .ok (.aload_n 0, 1) := by decide +kernel
theorem dX0_loadInverse_9 : decode cX0_loadInverse 9 = .ok (.aload_n 1, 1) := by decide +kernel
theorem dX0_loadInverse_10 : decode cX0_loadInverse 10 = .ok (.invokevirtual 88, 3) := by decide +kernel
theorem dX0_loadInverse_13 : decode cX0_loadInverse 13 = .ok (.putfield 92, 3) := by decide +kernel
theorem dX0_loadInverse_16 : decode cX0_loadInverse 16 = .ok (.iconst 0, 1) := by decide +kernel
theorem dX0_loadInverse_17 : decode cX0_loadInverse 17 = .ok (.istore_n 2, 1) := by decide +kernel
theorem dX0_loadInverse_18 : decode cX0_loadInverse 18 = .ok (.iload_n 2, 1) := by decide +kernel
theorem dX0_loadInverse_19 : decode cX0_loadInverse 19 = .ok (.iconst 4, 1) := by decide +kernel
theorem dX0_loadInverse_20 : decode cX0_loadInverse 20 = .ok (.if_icmp .ge 70, 3) := by decide +kernel
theorem dX0_loadInverse_23 : decode cX0_loadInverse 23 = .ok (.iconst 0, 1) := by decide +kernel
theorem dX0_loadInverse_24 : decode cX0_loadInverse 24 = .ok (.istore_n 3, 1) := by decide +kernel
theorem dX0_loadInverse_25 : decode cX0_loadInverse 25 = .ok (.iload_n 3, 1) := by decide +kernel
theorem dX0_loadInverse_26 : decode cX0_loadInverse 26 = .ok (.iconst 4, 1) := by decide +kernel
theorem dX0_loadInverse_27 : decode cX0_loadInverse 27 = .ok (.if_icmp .ge 57, 3) := by decide +kernel
theorem dX0_loadInverse_30 : decode cX0_loadInverse 30 = .ok (.iload_n 3, 1) := by decide +kernel
theorem dX0_loadInverse_31 : decode cX0_loadInverse 31 = .ok (.aload_n 0, 1) := by decide +kernel
theorem dX0_loadInverse_32 : decode cX0_loadInverse 32 = .ok (.getfield 67, 3) := by decide +kernel
theorem dX0_loadInverse_35 : decode cX0_loadInverse 35 = .ok (.if_icmp .ge 15, 3) := by decide +kernel
theorem dX0_loadInverse_38 : decode cX0_loadInverse 38 = .ok (.iload_n 2, 1) := by decide +kernel
theorem dX0_loadInverse_39 : decode cX0_loadInverse 39 = .ok (.aload_n 0, 1) := by decide +kernel
theorem dX0_loadInverse_40 : decode cX0_loadInverse 40 = .ok (.getfield 67, 3) := by decide +kernel
theorem dX0_loadInverse_43 : decode cX0_loadInverse 43 = .ok (.if_icmp .ge 7, 3) := by decide +kernel
theorem dX0_loadInverse_46 : decode cX0_loadInverse 46 = .ok (.iconst 1, 1) := by decide +kernel
theorem dX0_loadInverse_47 : decode cX0_loadInverse 47 = .ok (.goto 4, 3) := by decide +kernel
theorem dX0_loadInverse_50 : decode cX0_loadInverse 50 = .ok (.iconst 0, 1) := by decide +kernel
theorem dX0_loadInverse_51 : decode cX0_loadInverse 51 = .ok (.istore 4, 2) := by decide +kernel
theorem dX0_loadInverse_53 : decode cX0_loadInverse 53 = .ok (.aload_n 0, 1) := by decide +kernel
theorem dX0_loadInverse_54 : decode cX0_loadInverse 54 = .ok (.getfield 28, 3) := by decide +kernel
theorem dX0_loadInverse_57 : decode cX0_loadInverse 57 = .ok (.iconst 4, 1) := by decide +kernel
theorem dX0_loadInverse_58 : decode cX0_loadInverse 58 = .ok (.iload_n 2, 1) := by decide +kernel
theorem dX0_loadInverse_59 : decode cX0_loadInverse 59 = .ok (.imul, 1) := by decide +kernel
theorem dX0_loadInverse_60 : decode cX0_loadInverse 60 = .ok (.iload_n 3, 1) := by decide +kernel
theorem dX0_loadInverse_61 : decode cX0_loadInverse 61 = .ok (.iadd, 1) := by decide +kernel
theorem dX0_loadInverse_62 : decode cX0_loadInverse 62 = .ok (.iload 4, 2) := by decide +kernel
theorem dX0_loadInverse_64 : decode cX0_loadInverse 64 = .ok (.ifCond .eq 12, 3) := by decide +kernel
theorem dX0_loadInverse_67 : decode cX0_loadInverse 67 = .ok (.aload_n 1, 1) := by decide +kernel
theorem dX0_loadInverse_68 : decode cX0_loadInverse 68 = .ok (.iload_n 2, 1) := by decide +kernel
theorem dX0_loadInverse_69 : decode cX0_loadInverse 69 = .ok (.iload_n 3, 1) := by decide +kernel
theorem dX0_loadInverse_70 : decode cX0_loadInverse 70 = .ok (.invokevirtual 95, 3) := by decide +kernel
theorem dX0_loadInverse_73 : decode cX0_loadInverse 73 = .ok (.goto 4, 3) := by decide +kernel
theorem dX0_loadInverse_76 : decode cX0_loadInverse 76 = .ok (.iconst 0, 1) := by decide +kernel
theorem dX0_loadInverse_77 : decode cX0_loadInverse 77 = .ok (.iastore, 1) := by decide +kernel
theorem dX0_loadInverse_78 : decode cX0_loadInverse 78 = .ok (.iinc 3 1, 3) := by decide +kernel
theorem dX0_loadInverse_81 : decode cX0_loadInverse 81 = .ok (.goto (-56), 3) := by decide +kernel
theorem dX0_loadInverse_84 : decode cX0_loadInverse 84 = .ok (.iinc 2 1, 3) := by decide +kernel
theorem dX0_loadInverse_87 : decode cX0_loadInverse 87 = .ok (.goto (-69), 3) := by decide +kernel
theorem dX0_loadInverse_90 : decode cX0_loadInverse 90 = .ok (.return_, 1) := by decide +kernel
theorem dX0_remember_0 : decode cX0_remember 0 = .ok (.aload_n 0, 1) := by decide +kernel
theorem dX0_remember_1 : decode cX0_remember 1 = .ok (.aload_n 0, 1) := by decide +kernel
theorem dX0_remember_2 : decode cX0_remember 2 = .ok (.getfield 64, 3) := by decide +kernel
theorem dX0_remember_5 : decode cX0_remember 5 = .ok (.putfield 49, 3) := by decide +kernel
theorem dX0_remember_8 : decode cX0_remember 8 = .ok (.aload_n 0, 1) := by decide +kernel
theorem dX0_remember_9 : decode cX0_remember 9 = .ok (.aload_n 0, 1) := by decide +kernel
theorem dX0_remember_10 : decode cX0_remember 10 = .ok (.getfield 67, 3) := by decide +kernel
theorem dX0_remember_13 : decode cX0_remember 13 = .ok (.putfield 53, 3) := by decide +kernel
theorem dX0_remember_16 : decode cX0_remember 16 = .ok (.iconst 0, 1) := by decide +kernel
theorem dX0_remember_17 : decode cX0_remember 17 = .ok (.istore_n 1, 1) := by decide +kernel
theorem dX0_remember_18 : decode cX0_remember 18 = .ok (.iload_n 1, 1) := by decide +kernel
theorem dX0_remember_19 : decode cX0_remember 19 = .ok (.aload_n 0, 1) := by decide +kernel
theorem dX0_remember_20 : decode cX0_remember 20 = .ok (.getfield 49, 3) := by decide +kernel
theorem dX0_remember_23 : decode cX0_remember 23 = .ok (.if_icmp .ge 21, 3) := by decide +kernel
theorem dX0_remember_26 : decode cX0_remember 26 = .ok (.aload_n 0, 1) := by decide +kernel
theorem dX0_remember_27 : decode cX0_remember 27 = .ok (.getfield 9, 3) := by decide +kernel
theorem dX0_remember_30 : decode cX0_remember 30 = .ok (.iload_n 1, 1) := by decide +kernel
theorem dX0_remember_31 : decode cX0_remember 31 = .ok (.aload_n 0, 1) := by decide +kernel
theorem dX0_remember_32 : decode cX0_remember 32 = .ok (.getfield 15, 3) := by decide +kernel
theorem dX0_remember_35 : decode cX0_remember 35 = .ok (.iload_n 1, 1) := by decide +kernel
theorem dX0_remember_36 : decode cX0_remember 36 = .ok (.iaload, 1) := by decide +kernel
theorem dX0_remember_37 : decode cX0_remember 37 = .ok (.iastore, 1) := by decide +kernel
theorem dX0_remember_38 : decode cX0_remember 38 = .ok (.iinc 1 1, 3) := by decide +kernel
theorem dX0_remember_41 : decode cX0_remember 41 = .ok (.goto (-23), 3) := by decide +kernel
theorem dX0_remember_44 : decode cX0_remember 44 = .ok (.return_, 1) := by decide +kernel
set_option maxRecDepth 20000 in
theorem ggX0_admitParents_X0_loadBase : GoodIn wsX0_admitParents wsX0_loadBase := goodIn_r _ [12, 13, 4, 2, 14, 73, 74, 75, 76, 77, 78, 79, 80, 81, 82, 83, 84, 85, 86, 87, 88] rfl (by decide +kernel)
set_option maxRecDepth 20000 in
theorem gX0_admitParents_X0_loadBase : GoodIn wsX0_admitParents (wsV RX0 98 RX0 yX0_loadBase wsX0_loadBase) := goodIn_app (goodIn_r _ [8, 9, 10, 11] rfl (by decide +kernel)) ggX0_admitParents_X0_loadBase
set_option maxRecDepth 20000 in
theorem ggX0_admitParents_X6_find : GoodIn wsX0_admitParents wsX6_find := goodIn_r _ [19, 20, 21, 22, 23, 24, 25, 26, 27, 18, 28, 29, 30, 31, 32, 33, 34, 35, 36, 37, 38, 39, 40, 41, 42, 43, 44, 45, 46, 47, 89, 90, 91, 92, 93, 94, 95, 96, 97, 98, 99, 100] rfl (by decide +kernel)
set_option maxRecDepth 20000 in
theorem gX0_admitParents_X6_find : GoodIn wsX0_admitParents (wsV RX0 104 RX6 yX6_find wsX6_find) := goodIn_app (goodIn_r _ [15, 16, 17, 18] rfl (by decide +kernel)) ggX0_admitParents_X6_find
set_option maxRecDepth 20000 in
theorem ggX0_admitParents_X0_parentKey : GoodIn wsX0_admitParents wsX0_parentKey := goodIn_r _ [51, 52, 1, 53, 5, 6, 54, 13, 55, 56, 57, 33, 58, 59, 60, 61, 73, 74, 75, 76, 77, 78, 79, 80, 81, 82, 83, 84, 85, 86, 89, 90, 91, 92] rfl (by decide +kernel)
set_option maxRecDepth 20000 in
theorem gX0_admitParents_X0_parentKey : GoodIn wsX0_admitParents (wsV RX0 109 RX0 yX0_parentKey wsX0_parentKey) := goodIn_app (goodIn_r _ [48, 49, 50, 11] rfl (by decide +kernel)) ggX0_admitParents_X0_parentKey
set_option maxRecDepth 20000 in
theorem ggX0_admitParents_X0_admit : GoodIn wsX0_admitParents wsX0_admit := goodIn_r _ [65, 66, 67, 68, 69, 70, 71, 11, 72, 73, 74, 75, 76, 77, 78, 79, 80, 81, 82, 83, 84, 85, 86] rfl (by decide +kernel)
set_option maxRecDepth 20000 in
theorem gX0_admitParents_X0_admit : GoodIn wsX0_admitParents (wsV RX0 74 RX0 yX0_admit wsX0_admit) := goodIn_app (goodIn_r _ [62, 63, 64, 11] rfl (by decide +kernel)) ggX0_admitParents_X0_admit
theorem dX0_admitParents_0 : decode cX0_admitParents 0 = .ok (.aload_n 0, 1) := by decide +kernel
theorem dX0_admitParents_1 : decode cX0_admitParents 1 = .ok (.invokevirtual 98, 3) := by decide +kernel
theorem dX0_admitParents_4 : decode cX0_admitParents 4 = .ok (.aload_n 0, 1) := by decide +kernel
theorem dX0_admitParents_5 : decode cX0_admitParents 5 = .ok (.getfield 39, 3) := by decide +kernel
theorem dX0_admitParents_8 : decode cX0_admitParents 8 = .ok (.aload_n 0, 1) := by decide +kernel
theorem dX0_admitParents_9 : decode cX0_admitParents 9 = .ok (.getfield 24, 3) := by decide +kernel
theorem dX0_admitParents_12 : decode cX0_admitParents 12 = .ok (.getfield 101, 3) := by decide +kernel
theorem dX0_admitParents_15 : decode cX0_admitParents 15 = .ok (.iconst 0, 1) := by decide +kernel
theorem dX0_admitParents_16 : decode cX0_admitParents 16 = .ok (.iaload, 1) := by decide +kernel
theorem dX0_admitParents_17 : decode cX0_admitParents 17 = .ok (.aload_n 1, 1) := by decide +kernel
theorem dX0_admitParents_18 : decode cX0_admitParents 18 = .ok (.aload_n 0, 1) := by decide +kernel
theorem dX0_admitParents_19 : decode cX0_admitParents 19 = .ok (.getfield 28, 3) := by decide +kernel
theorem dX0_admitParents_22 : decode cX0_admitParents 22 = .ok (.invokevirtual 104, 3) := by decide +kernel
theorem dX0_admitParents_25 : decode cX0_admitParents 25 = .ok (.aload_n 0, 1) := by decide +kernel
theorem dX0_admitParents_26 : decode cX0_admitParents 26 = .ok (.getfield 43, 3) := by decide +kernel
theorem dX0_admitParents_29 : decode cX0_admitParents 29 = .ok (.aload_n 0, 1) := by decide +kernel
theorem dX0_admitParents_30 : decode cX0_admitParents 30 = .ok (.getfield 24, 3) := by decide +kernel
theorem dX0_admitParents_33 : decode cX0_admitParents 33 = .ok (.getfield 101, 3) := by decide +kernel
theorem dX0_admitParents_36 : decode cX0_admitParents 36 = .ok (.iconst 1, 1) := by decide +kernel
theorem dX0_admitParents_37 : decode cX0_admitParents 37 = .ok (.iaload, 1) := by decide +kernel
theorem dX0_admitParents_38 : decode cX0_admitParents 38 = .ok (.aload_n 1, 1) := by decide +kernel
theorem dX0_admitParents_39 : decode cX0_admitParents 39 = .ok (.aload_n 0, 1) := by decide +kernel
theorem dX0_admitParents_40 : decode cX0_admitParents 40 = .ok (.getfield 28, 3) := by decide +kernel
theorem dX0_admitParents_43 : decode cX0_admitParents 43 = .ok (.invokevirtual 104, 3) := by decide +kernel
theorem dX0_admitParents_46 : decode cX0_admitParents 46 = .ok (.aload_n 0, 1) := by decide +kernel
theorem dX0_admitParents_47 : decode cX0_admitParents 47 = .ok (.getfield 46, 3) := by decide +kernel
theorem dX0_admitParents_50 : decode cX0_admitParents 50 = .ok (.aload_n 0, 1) := by decide +kernel
theorem dX0_admitParents_51 : decode cX0_admitParents 51 = .ok (.getfield 24, 3) := by decide +kernel
theorem dX0_admitParents_54 : decode cX0_admitParents 54 = .ok (.getfield 101, 3) := by decide +kernel
theorem dX0_admitParents_57 : decode cX0_admitParents 57 = .ok (.iconst 2, 1) := by decide +kernel
theorem dX0_admitParents_58 : decode cX0_admitParents 58 = .ok (.iaload, 1) := by decide +kernel
theorem dX0_admitParents_59 : decode cX0_admitParents 59 = .ok (.aload_n 1, 1) := by decide +kernel
theorem dX0_admitParents_60 : decode cX0_admitParents 60 = .ok (.aload_n 0, 1) := by decide +kernel
theorem dX0_admitParents_61 : decode cX0_admitParents 61 = .ok (.getfield 28, 3) := by decide +kernel
theorem dX0_admitParents_64 : decode cX0_admitParents 64 = .ok (.invokevirtual 104, 3) := by decide +kernel
theorem dX0_admitParents_67 : decode cX0_admitParents 67 = .ok (.iconst 0, 1) := by decide +kernel
theorem dX0_admitParents_68 : decode cX0_admitParents 68 = .ok (.istore_n 2, 1) := by decide +kernel
theorem dX0_admitParents_69 : decode cX0_admitParents 69 = .ok (.iload_n 2, 1) := by decide +kernel
theorem dX0_admitParents_70 : decode cX0_admitParents 70 = .ok (.aload_n 0, 1) := by decide +kernel
theorem dX0_admitParents_71 : decode cX0_admitParents 71 = .ok (.getfield 39, 3) := by decide +kernel
theorem dX0_admitParents_74 : decode cX0_admitParents 74 = .ok (.getfield 108, 3) := by decide +kernel
theorem dX0_admitParents_77 : decode cX0_admitParents 77 = .ok (.if_icmp .ge 75, 3) := by decide +kernel
theorem dX0_admitParents_80 : decode cX0_admitParents 80 = .ok (.iconst 0, 1) := by decide +kernel
theorem dX0_admitParents_81 : decode cX0_admitParents 81 = .ok (.istore_n 3, 1) := by decide +kernel
theorem dX0_admitParents_82 : decode cX0_admitParents 82 = .ok (.iload_n 3, 1) := by decide +kernel
theorem dX0_admitParents_83 : decode cX0_admitParents 83 = .ok (.aload_n 0, 1) := by decide +kernel
theorem dX0_admitParents_84 : decode cX0_admitParents 84 = .ok (.getfield 43, 3) := by decide +kernel
theorem dX0_admitParents_87 : decode cX0_admitParents 87 = .ok (.getfield 108, 3) := by decide +kernel
theorem dX0_admitParents_90 : decode cX0_admitParents 90 = .ok (.if_icmp .ge 56, 3) := by decide +kernel
theorem dX0_admitParents_93 : decode cX0_admitParents 93 = .ok (.iconst 0, 1) := by decide +kernel
theorem dX0_admitParents_94 : decode cX0_admitParents 94 = .ok (.istore 4, 2) := by decide +kernel
theorem dX0_admitParents_96 : decode cX0_admitParents 96 = .ok (.iload 4, 2) := by decide +kernel
theorem dX0_admitParents_98 : decode cX0_admitParents 98 = .ok (.aload_n 0, 1) := by decide +kernel
theorem dX0_admitParents_99 : decode cX0_admitParents 99 = .ok (.getfield 46, 3) := by decide +kernel
theorem dX0_admitParents_102 : decode cX0_admitParents 102 = .ok (.getfield 108, 3) := by decide +kernel
theorem dX0_admitParents_105 : decode cX0_admitParents 105 = .ok (.if_icmp .ge 35, 3) := by decide +kernel
theorem dX0_admitParents_108 : decode cX0_admitParents 108 = .ok (.aload_n 0, 1) := by decide +kernel
theorem dX0_admitParents_109 : decode cX0_admitParents 109 = .ok (.iload_n 2, 1) := by decide +kernel
theorem dX0_admitParents_110 : decode cX0_admitParents 110 = .ok (.iload_n 3, 1) := by decide +kernel
theorem dX0_admitParents_111 : decode cX0_admitParents 111 = .ok (.iload 4, 2) := by decide +kernel
theorem dX0_admitParents_113 : decode cX0_admitParents 113 = .ok (.invokevirtual 109, 3) := by decide +kernel
theorem dX0_admitParents_116 : decode cX0_admitParents 116 = .ok (.istore 5, 2) := by decide +kernel
theorem dX0_admitParents_118 : decode cX0_admitParents 118 = .ok (.iload 5, 2) := by decide +kernel
theorem dX0_admitParents_120 : decode cX0_admitParents 120 = .ok (.ifCond .lt 14, 3) := by decide +kernel
theorem dX0_admitParents_123 : decode cX0_admitParents 123 = .ok (.aload_n 0, 1) := by decide +kernel
theorem dX0_admitParents_124 : decode cX0_admitParents 124 = .ok (.iload 5, 2) := by decide +kernel
theorem dX0_admitParents_126 : decode cX0_admitParents 126 = .ok (.invokevirtual 74, 3) := by decide +kernel
theorem dX0_admitParents_129 : decode cX0_admitParents 129 = .ok (.ifCond .ne 5, 3) := by decide +kernel
theorem dX0_admitParents_132 : decode cX0_admitParents 132 = .ok (.iconst 0, 1) := by decide +kernel
theorem dX0_admitParents_133 : decode cX0_admitParents 133 = .ok (.ireturn, 1) := by decide +kernel
theorem dX0_admitParents_134 : decode cX0_admitParents 134 = .ok (.iinc 4 1, 3) := by decide +kernel
theorem dX0_admitParents_137 : decode cX0_admitParents 137 = .ok (.goto (-41), 3) := by decide +kernel
theorem dX0_admitParents_140 : decode cX0_admitParents 140 = .ok (.iinc 3 1, 3) := by decide +kernel
theorem dX0_admitParents_143 : decode cX0_admitParents 143 = .ok (.goto (-61), 3) := by decide +kernel
theorem dX0_admitParents_146 : decode cX0_admitParents 146 = .ok (.iinc 2 1, 3) := by decide +kernel
theorem dX0_admitParents_149 : decode cX0_admitParents 149 = .ok (.goto (-80), 3) := by decide +kernel
theorem dX0_admitParents_152 : decode cX0_admitParents 152 = .ok (.iconst 1, 1) := by decide +kernel
theorem dX0_admitParents_153 : decode cX0_admitParents 153 = .ok (.ireturn, 1) := by decide +kernel
theorem dX0_loadBase_0 : decode cX0_loadBase 0 = .ok (.iconst 0, 1) := by decide +kernel
theorem dX0_loadBase_1 : decode cX0_loadBase 1 = .ok (.istore_n 1, 1) := by decide +kernel
theorem dX0_loadBase_2 : decode cX0_loadBase 2 = .ok (.iload_n 1, 1) := by decide +kernel
theorem dX0_loadBase_3 : decode cX0_loadBase 3 = .ok (.iconst 4, 1) := by decide +kernel
theorem dX0_loadBase_4 : decode cX0_loadBase 4 = .ok (.if_icmp .ge 58, 3) := by decide +kernel
theorem dX0_loadBase_7 : decode cX0_loadBase 7 = .ok (.aload_n 0, 1) := by decide +kernel
theorem dX0_loadBase_8 : decode cX0_loadBase 8 = .ok (.getfield 31, 3) := by decide +kernel
theorem dX0_loadBase_11 : decode cX0_loadBase 11 = .ok (.iload_n 1, 1) := by decide +kernel
theorem dX0_loadBase_12 : decode cX0_loadBase 12 = .ok (.iconst 0, 1) := by decide +kernel
theorem dX0_loadBase_13 : decode cX0_loadBase 13 = .ok (.iastore, 1) := by decide +kernel
theorem dX0_loadBase_14 : decode cX0_loadBase 14 = .ok (.iconst 0, 1) := by decide +kernel
theorem dX0_loadBase_15 : decode cX0_loadBase 15 = .ok (.istore_n 2, 1) := by decide +kernel
theorem dX0_loadBase_16 : decode cX0_loadBase 16 = .ok (.iload_n 2, 1) := by decide +kernel
theorem dX0_loadBase_17 : decode cX0_loadBase 17 = .ok (.iconst 4, 1) := by decide +kernel
theorem dX0_loadBase_18 : decode cX0_loadBase 18 = .ok (.if_icmp .ge 38, 3) := by decide +kernel
theorem dX0_loadBase_21 : decode cX0_loadBase 21 = .ok (.aload_n 0, 1) := by decide +kernel
theorem dX0_loadBase_22 : decode cX0_loadBase 22 = .ok (.getfield 31, 3) := by decide +kernel
theorem dX0_loadBase_25 : decode cX0_loadBase 25 = .ok (.iload_n 1, 1) := by decide +kernel
theorem dX0_loadBase_26 : decode cX0_loadBase 26 = .ok (.dup2, 1) := by decide +kernel
theorem dX0_loadBase_27 : decode cX0_loadBase 27 = .ok (.iaload, 1) := by decide +kernel
theorem dX0_loadBase_28 : decode cX0_loadBase 28 = .ok (.aload_n 0, 1) := by decide +kernel
theorem dX0_loadBase_29 : decode cX0_loadBase 29 = .ok (.getfield 28, 3) := by decide +kernel
theorem dX0_loadBase_32 : decode cX0_loadBase 32 = .ok (.iconst 4, 1) := by decide +kernel
theorem dX0_loadBase_33 : decode cX0_loadBase 33 = .ok (.iload_n 1, 1) := by decide +kernel
theorem dX0_loadBase_34 : decode cX0_loadBase 34 = .ok (.imul, 1) := by decide +kernel
theorem dX0_loadBase_35 : decode cX0_loadBase 35 = .ok (.iload_n 2, 1) := by decide +kernel
theorem dX0_loadBase_36 : decode cX0_loadBase 36 = .ok (.iadd, 1) := by decide +kernel
theorem dX0_loadBase_37 : decode cX0_loadBase 37 = .ok (.iaload, 1) := by decide +kernel
theorem dX0_loadBase_38 : decode cX0_loadBase 38 = .ok (.aload_n 0, 1) := by decide +kernel
theorem dX0_loadBase_39 : decode cX0_loadBase 39 = .ok (.getfield 24, 3) := by decide +kernel
theorem dX0_loadBase_42 : decode cX0_loadBase 42 = .ok (.getfield 113, 3) := by decide +kernel
theorem dX0_loadBase_45 : decode cX0_loadBase 45 = .ok (.iload_n 2, 1) := by decide +kernel
theorem dX0_loadBase_46 : decode cX0_loadBase 46 = .ok (.iaload, 1) := by decide +kernel
theorem dX0_loadBase_47 : decode cX0_loadBase 47 = .ok (.imul, 1) := by decide +kernel
theorem dX0_loadBase_48 : decode cX0_loadBase 48 = .ok (.iadd, 1) := by decide +kernel
theorem dX0_loadBase_49 : decode cX0_loadBase 49 = .ok (.iastore, 1) := by decide +kernel
theorem dX0_loadBase_50 : decode cX0_loadBase 50 = .ok (.iinc 2 1, 3) := by decide +kernel
theorem dX0_loadBase_53 : decode cX0_loadBase 53 = .ok (.goto (-37), 3) := by decide +kernel
theorem dX0_loadBase_56 : decode cX0_loadBase 56 = .ok (.iinc 1 1, 3) := by decide +kernel
theorem dX0_loadBase_59 : decode cX0_loadBase 59 = .ok (.goto (-57), 3) := by decide +kernel
theorem dX0_loadBase_62 : decode cX0_loadBase 62 = .ok (.return_, 1) := by decide +kernel
set_option maxRecDepth 20000 in
theorem ggX0_parentKey_X7_keyOfEnds : GoodIn wsX0_parentKey wsX7_keyOfEnds := goodIn_r _ [12] rfl (by decide +kernel)
set_option maxRecDepth 20000 in
theorem gX0_parentKey_X7_keyOfEnds : GoodIn wsX0_parentKey (va_wsS RX0 117 yX7_keyOfEnds wsX7_keyOfEnds) := goodIn_app (goodIn_r _ [9, 10, 11] rfl (by decide +kernel)) ggX0_parentKey_X7_keyOfEnds
set_option maxRecDepth 20000 in
theorem ggX0_parentKey_X7_keyWithNumber : GoodIn wsX0_parentKey wsX7_keyWithNumber := goodIn_r _ [15] rfl (by decide +kernel)
set_option maxRecDepth 20000 in
theorem gX0_parentKey_X7_keyWithNumber : GoodIn wsX0_parentKey (va_wsS RX0 123 yX7_keyWithNumber wsX7_keyWithNumber) := goodIn_app (goodIn_r _ [13, 14, 11] rfl (by decide +kernel)) ggX0_parentKey_X7_keyWithNumber
theorem dX0_parentKey_0 : decode cX0_parentKey 0 = .ok (.aload_n 0, 1) := by decide +kernel
theorem dX0_parentKey_1 : decode cX0_parentKey 1 = .ok (.getfield 92, 3) := by decide +kernel
theorem dX0_parentKey_4 : decode cX0_parentKey 4 = .ok (.ifCond .ne 5, 3) := by decide +kernel
theorem dX0_parentKey_7 : decode cX0_parentKey 7 = .ok (.iconst (-1), 1) := by decide +kernel
theorem dX0_parentKey_8 : decode cX0_parentKey 8 = .ok (.ireturn, 1) := by decide +kernel
theorem dX0_parentKey_9 : decode cX0_parentKey 9 = .ok (.aload_n 0, 1) := by decide +kernel
theorem dX0_parentKey_10 : decode cX0_parentKey 10 = .ok (.getfield 39, 3) := by decide +kernel
theorem dX0_parentKey_13 : decode cX0_parentKey 13 = .ok (.getfield 116, 3) := by decide +kernel
theorem dX0_parentKey_16 : decode cX0_parentKey 16 = .ok (.iload_n 1, 1) := by decide +kernel
theorem dX0_parentKey_17 : decode cX0_parentKey 17 = .ok (.iaload, 1) := by decide +kernel
theorem dX0_parentKey_18 : decode cX0_parentKey 18 = .ok (.aload_n 0, 1) := by decide +kernel
theorem dX0_parentKey_19 : decode cX0_parentKey 19 = .ok (.getfield 43, 3) := by decide +kernel
theorem dX0_parentKey_22 : decode cX0_parentKey 22 = .ok (.getfield 116, 3) := by decide +kernel
theorem dX0_parentKey_25 : decode cX0_parentKey 25 = .ok (.iload_n 2, 1) := by decide +kernel
theorem dX0_parentKey_26 : decode cX0_parentKey 26 = .ok (.iaload, 1) := by decide +kernel
theorem dX0_parentKey_27 : decode cX0_parentKey 27 = .ok (.aload_n 0, 1) := by decide +kernel
theorem dX0_parentKey_28 : decode cX0_parentKey 28 = .ok (.getfield 46, 3) := by decide +kernel
theorem dX0_parentKey_31 : decode cX0_parentKey 31 = .ok (.getfield 116, 3) := by decide +kernel
theorem dX0_parentKey_34 : decode cX0_parentKey 34 = .ok (.iload_n 3, 1) := by decide +kernel
theorem dX0_parentKey_35 : decode cX0_parentKey 35 = .ok (.iaload, 1) := by decide +kernel
theorem dX0_parentKey_36 : decode cX0_parentKey 36 = .ok (.invokestatic 117, 3) := by decide +kernel
theorem dX0_parentKey_39 : decode cX0_parentKey 39 = .ok (.istore 4, 2) := by decide +kernel
theorem dX0_parentKey_41 : decode cX0_parentKey 41 = .ok (.iconst 0, 1) := by decide +kernel
theorem dX0_parentKey_42 : decode cX0_parentKey 42 = .ok (.istore 5, 2) := by decide +kernel
theorem dX0_parentKey_44 : decode cX0_parentKey 44 = .ok (.iload 5, 2) := by decide +kernel
theorem dX0_parentKey_46 : decode cX0_parentKey 46 = .ok (.aload_n 0, 1) := by decide +kernel
theorem dX0_parentKey_47 : decode cX0_parentKey 47 = .ok (.getfield 67, 3) := by decide +kernel
theorem dX0_parentKey_50 : decode cX0_parentKey 50 = .ok (.if_icmp .ge 109, 3) := by decide +kernel
theorem dX0_parentKey_53 : decode cX0_parentKey 53 = .ok (.aload_n 0, 1) := by decide +kernel
theorem dX0_parentKey_54 : decode cX0_parentKey 54 = .ok (.getfield 31, 3) := by decide +kernel
theorem dX0_parentKey_57 : decode cX0_parentKey 57 = .ok (.iload 5, 2) := by decide +kernel
theorem dX0_parentKey_59 : decode cX0_parentKey 59 = .ok (.iaload, 1) := by decide +kernel
theorem dX0_parentKey_60 : decode cX0_parentKey 60 = .ok (.aload_n 0, 1) := by decide +kernel
theorem dX0_parentKey_61 : decode cX0_parentKey 61 = .ok (.getfield 39, 3) := by decide +kernel
theorem dX0_parentKey_64 : decode cX0_parentKey 64 = .ok (.getfield 120, 3) := by decide +kernel
theorem dX0_parentKey_67 : decode cX0_parentKey 67 = .ok (.iconst 4, 1) := by decide +kernel
theorem dX0_parentKey_68 : decode cX0_parentKey 68 = .ok (.iload_n 1, 1) := by decide +kernel
theorem dX0_parentKey_69 : decode cX0_parentKey 69 = .ok (.imul, 1) := by decide +kernel
theorem dX0_parentKey_70 : decode cX0_parentKey 70 = .ok (.iload 5, 2) := by decide +kernel
theorem dX0_parentKey_72 : decode cX0_parentKey 72 = .ok (.iadd, 1) := by decide +kernel
theorem dX0_parentKey_73 : decode cX0_parentKey 73 = .ok (.iaload, 1) := by decide +kernel
theorem dX0_parentKey_74 : decode cX0_parentKey 74 = .ok (.iadd, 1) := by decide +kernel
theorem dX0_parentKey_75 : decode cX0_parentKey 75 = .ok (.aload_n 0, 1) := by decide +kernel
theorem dX0_parentKey_76 : decode cX0_parentKey 76 = .ok (.getfield 43, 3) := by decide +kernel
theorem dX0_parentKey_79 : decode cX0_parentKey 79 = .ok (.getfield 120, 3) := by decide +kernel
theorem dX0_parentKey_82 : decode cX0_parentKey 82 = .ok (.iconst 4, 1) := by decide +kernel
theorem dX0_parentKey_83 : decode cX0_parentKey 83 = .ok (.iload_n 2, 1) := by decide +kernel
theorem dX0_parentKey_84 : decode cX0_parentKey 84 = .ok (.imul, 1) := by decide +kernel
theorem dX0_parentKey_85 : decode cX0_parentKey 85 = .ok (.iload 5, 2) := by decide +kernel
theorem dX0_parentKey_87 : decode cX0_parentKey 87 = .ok (.iadd, 1) := by decide +kernel
theorem dX0_parentKey_88 : decode cX0_parentKey 88 = .ok (.iaload, 1) := by decide +kernel
theorem dX0_parentKey_89 : decode cX0_parentKey 89 = .ok (.iadd, 1) := by decide +kernel
theorem dX0_parentKey_90 : decode cX0_parentKey 90 = .ok (.aload_n 0, 1) := by decide +kernel
theorem dX0_parentKey_91 : decode cX0_parentKey 91 = .ok (.getfield 46, 3) := by decide +kernel
theorem dX0_parentKey_94 : decode cX0_parentKey 94 = .ok (.getfield 120, 3) := by decide +kernel
theorem dX0_parentKey_97 : decode cX0_parentKey 97 = .ok (.iconst 4, 1) := by decide +kernel
theorem dX0_parentKey_98 : decode cX0_parentKey 98 = .ok (.iload_n 3, 1) := by decide +kernel
theorem dX0_parentKey_99 : decode cX0_parentKey 99 = .ok (.imul, 1) := by decide +kernel
theorem dX0_parentKey_100 : decode cX0_parentKey 100 = .ok (.iload 5, 2) := by decide +kernel
theorem dX0_parentKey_102 : decode cX0_parentKey 102 = .ok (.iadd, 1) := by decide +kernel
theorem dX0_parentKey_103 : decode cX0_parentKey 103 = .ok (.iaload, 1) := by decide +kernel
theorem dX0_parentKey_104 : decode cX0_parentKey 104 = .ok (.iadd, 1) := by decide +kernel
theorem dX0_parentKey_105 : decode cX0_parentKey 105 = .ok (.istore 6, 2) := by decide +kernel
theorem dX0_parentKey_107 : decode cX0_parentKey 107 = .ok (.iload 6, 2) := by decide +kernel
theorem dX0_parentKey_109 : decode cX0_parentKey 109 = .ok (.aload_n 0, 1) := by decide +kernel
theorem dX0_parentKey_110 : decode cX0_parentKey 110 = .ok (.getfield 92, 3) := by decide +kernel
theorem dX0_parentKey_113 : decode cX0_parentKey 113 = .ok (.idiv, 1) := by decide +kernel
theorem dX0_parentKey_114 : decode cX0_parentKey 114 = .ok (.istore 7, 2) := by decide +kernel
theorem dX0_parentKey_116 : decode cX0_parentKey 116 = .ok (.iload 7, 2) := by decide +kernel
theorem dX0_parentKey_118 : decode cX0_parentKey 118 = .ok (.aload_n 0, 1) := by decide +kernel
theorem dX0_parentKey_119 : decode cX0_parentKey 119 = .ok (.getfield 92, 3) := by decide +kernel
theorem dX0_parentKey_122 : decode cX0_parentKey 122 = .ok (.imul, 1) := by decide +kernel
theorem dX0_parentKey_123 : decode cX0_parentKey 123 = .ok (.iload 6, 2) := by decide +kernel
theorem dX0_parentKey_125 : decode cX0_parentKey 125 = .ok (.if_icmp .ne 17, 3) := by decide +kernel
theorem dX0_parentKey_128 : decode cX0_parentKey 128 = .ok (.iload 7, 2) := by decide +kernel
theorem dX0_parentKey_130 : decode cX0_parentKey 130 = .ok (.bipush (-9), 2) := by decide +kernel
theorem dX0_parentKey_132 : decode cX0_parentKey 132 = .ok (.if_icmp .lt 10, 3) := by decide +kernel
theorem dX0_parentKey_135 : decode cX0_parentKey 135 = .ok (.iload 7, 2) := by decide +kernel
theorem dX0_parentKey_137 : decode cX0_parentKey 137 = .ok (.bipush 9, 2) := by decide +kernel
theorem dX0_parentKey_139 : decode cX0_parentKey 139 = .ok (.if_icmp .le 5, 3) := by decide +kernel
theorem dX0_parentKey_142 : decode cX0_parentKey 142 = .ok (.iconst (-1), 1) := by decide +kernel
theorem dX0_parentKey_143 : decode cX0_parentKey 143 = .ok (.ireturn, 1) := by decide +kernel
theorem dX0_parentKey_144 : decode cX0_parentKey 144 = .ok (.iload 4, 2) := by decide +kernel
theorem dX0_parentKey_146 : decode cX0_parentKey 146 = .ok (.iload 7, 2) := by decide +kernel
theorem dX0_parentKey_148 : decode cX0_parentKey 148 = .ok (.invokestatic 123, 3) := by decide +kernel
theorem dX0_parentKey_151 : decode cX0_parentKey 151 = .ok (.istore 4, 2) := by decide +kernel
theorem dX0_parentKey_153 : decode cX0_parentKey 153 = .ok (.iinc 5 1, 3) := by decide +kernel
theorem dX0_parentKey_156 : decode cX0_parentKey 156 = .ok (.goto (-112), 3) := by decide +kernel
theorem dX0_parentKey_159 : decode cX0_parentKey 159 = .ok (.iload 4, 2) := by decide +kernel
theorem dX0_parentKey_161 : decode cX0_parentKey 161 = .ok (.ireturn, 1) := by decide +kernel
set_option maxRecDepth 20000 in
theorem ggX0_admit_X0_placeOf : GoodIn wsX0_admit wsX0_placeOf := goodIn_r _ [8, 1, 2, 9, 10, 11, 12, 13, 14, 15, 16, 17, 18, 19, 20, 21, 22] rfl (by decide +kernel)
set_option maxRecDepth 20000 in
theorem gX0_admit_X0_placeOf : GoodIn wsX0_admit (wsV RX0 126 RX0 yX0_placeOf wsX0_placeOf) := goodIn_app (goodIn_r _ [4, 5, 6, 7] rfl (by decide +kernel)) ggX0_admit_X0_placeOf
theorem dX0_admit_0 : decode cX0_admit 0 = .ok (.aload_n 0, 1) := by decide +kernel
theorem dX0_admit_1 : decode cX0_admit 1 = .ok (.iload_n 1, 1) := by decide +kernel
theorem dX0_admit_2 : decode cX0_admit 2 = .ok (.invokevirtual 126, 3) := by decide +kernel
theorem dX0_admit_5 : decode cX0_admit 5 = .ok (.istore_n 2, 1) := by decide +kernel
theorem dX0_admit_6 : decode cX0_admit 6 = .ok (.iload_n 2, 1) := by decide +kernel
theorem dX0_admit_7 : decode cX0_admit 7 = .ok (.aload_n 0, 1) := by decide +kernel
theorem dX0_admit_8 : decode cX0_admit 8 = .ok (.getfield 64, 3) := by decide +kernel
theorem dX0_admit_11 : decode cX0_admit 11 = .ok (.if_icmp .ge 15, 3) := by decide +kernel
theorem dX0_admit_14 : decode cX0_admit 14 = .ok (.aload_n 0, 1) := by decide +kernel
theorem dX0_admit_15 : decode cX0_admit 15 = .ok (.getfield 15, 3) := by decide +kernel
theorem dX0_admit_18 : decode cX0_admit 18 = .ok (.iload_n 2, 1) := by decide +kernel
theorem dX0_admit_19 : decode cX0_admit 19 = .ok (.iaload, 1) := by decide +kernel
theorem dX0_admit_20 : decode cX0_admit 20 = .ok (.iload_n 1, 1) := by decide +kernel
theorem dX0_admit_21 : decode cX0_admit 21 = .ok (.if_icmp .ne 5, 3) := by decide +kernel
theorem dX0_admit_24 : decode cX0_admit 24 = .ok (.iconst 1, 1) := by decide +kernel
theorem dX0_admit_25 : decode cX0_admit 25 = .ok (.ireturn, 1) := by decide +kernel
theorem dX0_admit_26 : decode cX0_admit 26 = .ok (.aload_n 0, 1) := by decide +kernel
theorem dX0_admit_27 : decode cX0_admit 27 = .ok (.getfield 64, 3) := by decide +kernel
theorem dX0_admit_30 : decode cX0_admit 30 = .ok (.sipush 200, 3) := by decide +kernel
theorem dX0_admit_33 : decode cX0_admit 33 = .ok (.if_icmp .lt 5, 3) := by decide +kernel
theorem dX0_admit_36 : decode cX0_admit 36 = .ok (.iconst 0, 1) := by decide +kernel
theorem dX0_admit_37 : decode cX0_admit 37 = .ok (.ireturn, 1) := by decide +kernel
theorem dX0_admit_38 : decode cX0_admit 38 = .ok (.aload_n 0, 1) := by decide +kernel
theorem dX0_admit_39 : decode cX0_admit 39 = .ok (.getfield 64, 3) := by decide +kernel
theorem dX0_admit_42 : decode cX0_admit 42 = .ok (.istore_n 3, 1) := by decide +kernel
theorem dX0_admit_43 : decode cX0_admit 43 = .ok (.iload_n 3, 1) := by decide +kernel
theorem dX0_admit_44 : decode cX0_admit 44 = .ok (.iload_n 2, 1) := by decide +kernel
theorem dX0_admit_45 : decode cX0_admit 45 = .ok (.if_icmp .le 23, 3) := by decide +kernel
theorem dX0_admit_48 : decode cX0_admit 48 = .ok (.aload_n 0, 1) := by decide +kernel
theorem dX0_admit_49 : decode cX0_admit 49 = .ok (.getfield 15, 3) := by decide +kernel
theorem dX0_admit_52 : decode cX0_admit 52 = .ok (.iload_n 3, 1) := by decide +kernel
theorem dX0_admit_53 : decode cX0_admit 53 = .ok (.aload_n 0, 1) := by decide +kernel
theorem dX0_admit_54 : decode cX0_admit 54 = .ok (.getfield 15, 3) := by decide +kernel
theorem dX0_admit_57 : decode cX0_admit 57 = .ok (.iload_n 3, 1) := by decide +kernel
theorem dX0_admit_58 : decode cX0_admit 58 = .ok (.iconst 1, 1) := by decide +kernel
theorem dX0_admit_59 : decode cX0_admit 59 = .ok (.isub, 1) := by decide +kernel
theorem dX0_admit_60 : decode cX0_admit 60 = .ok (.iaload, 1) := by decide +kernel
theorem dX0_admit_61 : decode cX0_admit 61 = .ok (.iastore, 1) := by decide +kernel
theorem dX0_admit_62 : decode cX0_admit 62 = .ok (.iinc 3 (-1), 3) := by decide +kernel
theorem dX0_admit_65 : decode cX0_admit 65 = .ok (.goto (-22), 3) := by decide +kernel
theorem dX0_admit_68 : decode cX0_admit 68 = .ok (.aload_n 0, 1) := by decide +kernel
theorem dX0_admit_69 : decode cX0_admit 69 = .ok (.getfield 15, 3) := by decide +kernel
theorem dX0_admit_72 : decode cX0_admit 72 = .ok (.iload_n 2, 1) := by decide +kernel
theorem dX0_admit_73 : decode cX0_admit 73 = .ok (.iload_n 1, 1) := by decide +kernel
theorem dX0_admit_74 : decode cX0_admit 74 = .ok (.iastore, 1) := by decide +kernel
theorem dX0_admit_75 : decode cX0_admit 75 = .ok (.aload_n 0, 1) := by decide +kernel
theorem dX0_admit_76 : decode cX0_admit 76 = .ok (.getfield 18, 3) := by decide +kernel
theorem dX0_admit_79 : decode cX0_admit 79 = .ok (.aload_n 0, 1) := by decide +kernel
theorem dX0_admit_80 : decode cX0_admit 80 = .ok (.getfield 64, 3) := by decide +kernel
theorem dX0_admit_83 : decode cX0_admit 83 = .ok (.iload_n 1, 1) := by decide +kernel
theorem dX0_admit_84 : decode cX0_admit 84 = .ok (.iastore, 1) := by decide +kernel
theorem dX0_admit_85 : decode cX0_admit 85 = .ok (.aload_n 0, 1) := by decide +kernel
theorem dX0_admit_86 : decode cX0_admit 86 = .ok (.dup, 1) := by decide +kernel
theorem dX0_admit_87 : decode cX0_admit 87 = .ok (.getfield 64, 3) := by decide +kernel
theorem dX0_admit_90 : decode cX0_admit 90 = .ok (.iconst 1, 1) := by decide +kernel
theorem dX0_admit_91 : decode cX0_admit 91 = .ok (.iadd, 1) := by decide +kernel
theorem dX0_admit_92 : decode cX0_admit 92 = .ok (.putfield 64, 3) := by decide +kernel
theorem dX0_admit_95 : decode cX0_admit 95 = .ok (.iconst 1, 1) := by decide +kernel
theorem dX0_admit_96 : decode cX0_admit 96 = .ok (.ireturn, 1) := by decide +kernel
theorem dX0_placeOf_0 : decode cX0_placeOf 0 = .ok (.iconst 0, 1) := by decide +kernel
theorem dX0_placeOf_1 : decode cX0_placeOf 1 = .ok (.istore_n 2, 1) := by decide +kernel
theorem dX0_placeOf_2 : decode cX0_placeOf 2 = .ok (.aload_n 0, 1) := by decide +kernel
theorem dX0_placeOf_3 : decode cX0_placeOf 3 = .ok (.getfield 64, 3) := by decide +kernel
theorem dX0_placeOf_6 : decode cX0_placeOf 6 = .ok (.istore_n 3, 1) := by decide +kernel
theorem dX0_placeOf_7 : decode cX0_placeOf 7 = .ok (.iconst 0, 1) := by decide +kernel
theorem dX0_placeOf_8 : decode cX0_placeOf 8 = .ok (.istore 4, 2) := by decide +kernel
theorem dX0_placeOf_10 : decode cX0_placeOf 10 = .ok (.iload 4, 2) := by decide +kernel
theorem dX0_placeOf_12 : decode cX0_placeOf 12 = .ok (.sipush 200, 3) := by decide +kernel
theorem dX0_placeOf_15 : decode cX0_placeOf 15 = .ok (.if_icmp .ge 43, 3) := by decide +kernel
theorem dX0_placeOf_18 : decode cX0_placeOf 18 = .ok (.iload_n 2, 1) := by decide +kernel
theorem dX0_placeOf_19 : decode cX0_placeOf 19 = .ok (.iload_n 3, 1) := by decide +kernel
theorem dX0_placeOf_20 : decode cX0_placeOf 20 = .ok (.if_icmp .ge 38, 3) := by decide +kernel
theorem dX0_placeOf_23 : decode cX0_placeOf 23 = .ok (.iload_n 2, 1) := by decide +kernel
theorem dX0_placeOf_24 : decode cX0_placeOf 24 = .ok (.iload_n 3, 1) := by decide +kernel
theorem dX0_placeOf_25 : decode cX0_placeOf 25 = .ok (.iadd, 1) := by decide +kernel
theorem dX0_placeOf_26 : decode cX0_placeOf 26 = .ok (.iconst 2, 1) := by decide +kernel
theorem dX0_placeOf_27 : decode cX0_placeOf 27 = .ok (.idiv, 1) := by decide +kernel
theorem dX0_placeOf_28 : decode cX0_placeOf 28 = .ok (.istore 5, 2) := by decide +kernel
theorem dX0_placeOf_30 : decode cX0_placeOf 30 = .ok (.aload_n 0, 1) := by decide +kernel
theorem dX0_placeOf_31 : decode cX0_placeOf 31 = .ok (.getfield 15, 3) := by decide +kernel
theorem dX0_placeOf_34 : decode cX0_placeOf 34 = .ok (.iload 5, 2) := by decide +kernel
theorem dX0_placeOf_36 : decode cX0_placeOf 36 = .ok (.iaload, 1) := by decide +kernel
theorem dX0_placeOf_37 : decode cX0_placeOf 37 = .ok (.iload_n 1, 1) := by decide +kernel
theorem dX0_placeOf_38 : decode cX0_placeOf 38 = .ok (.if_icmp .ge 11, 3) := by decide +kernel
theorem dX0_placeOf_41 : decode cX0_placeOf 41 = .ok (.iload 5, 2) := by decide +kernel
theorem dX0_placeOf_43 : decode cX0_placeOf 43 = .ok (.iconst 1, 1) := by decide +kernel
theorem dX0_placeOf_44 : decode cX0_placeOf 44 = .ok (.iadd, 1) := by decide +kernel
theorem dX0_placeOf_45 : decode cX0_placeOf 45 = .ok (.istore_n 2, 1) := by decide +kernel
theorem dX0_placeOf_46 : decode cX0_placeOf 46 = .ok (.goto 6, 3) := by decide +kernel
theorem dX0_placeOf_49 : decode cX0_placeOf 49 = .ok (.iload 5, 2) := by decide +kernel
theorem dX0_placeOf_51 : decode cX0_placeOf 51 = .ok (.istore_n 3, 1) := by decide +kernel
theorem dX0_placeOf_52 : decode cX0_placeOf 52 = .ok (.iinc 4 1, 3) := by decide +kernel
theorem dX0_placeOf_55 : decode cX0_placeOf 55 = .ok (.goto (-45), 3) := by decide +kernel
theorem dX0_placeOf_58 : decode cX0_placeOf 58 = .ok (.iload_n 2, 1) := by decide +kernel
theorem dX0_placeOf_59 : decode cX0_placeOf 59 = .ok (.ireturn, 1) := by decide +kernel
theorem dX1_init_0 : decode cX1_init 0 = .ok (.aload_n 0, 1) := by decide +kernel
theorem dX1_init_1 : decode cX1_init 1 = .ok (.invokespecial 3, 3) := by decide +kernel
theorem dX1_init_4 : decode cX1_init 4 = .ok (.aload_n 0, 1) := by decide +kernel
theorem dX1_init_5 : decode cX1_init 5 = .ok (.bipush 16, 2) := by decide +kernel
theorem dX1_init_7 : decode cX1_init 7 = .ok (.newarray .int, 2) := by decide +kernel
theorem dX1_init_9 : decode cX1_init 9 = .ok (.putfield 9, 3) := by decide +kernel
theorem dX1_init_12 : decode cX1_init 12 = .ok (.return_, 1) := by decide +kernel
theorem dX1_put_0 : decode cX1_put 0 = .ok (.aload_n 0, 1) := by decide +kernel
theorem dX1_put_1 : decode cX1_put 1 = .ok (.getfield 15, 3) := by decide +kernel
theorem dX1_put_4 : decode cX1_put 4 = .ok (.bipush 16, 2) := by decide +kernel
theorem dX1_put_6 : decode cX1_put 6 = .ok (.if_icmp .ge 23, 3) := by decide +kernel
theorem dX1_put_9 : decode cX1_put 9 = .ok (.aload_n 0, 1) := by decide +kernel
theorem dX1_put_10 : decode cX1_put 10 = .ok (.getfield 9, 3) := by decide +kernel
theorem dX1_put_13 : decode cX1_put 13 = .ok (.aload_n 0, 1) := by decide +kernel
theorem dX1_put_14 : decode cX1_put 14 = .ok (.getfield 15, 3) := by decide +kernel
theorem dX1_put_17 : decode cX1_put 17 = .ok (.iload_n 1, 1) := by decide +kernel
theorem dX1_put_18 : decode cX1_put 18 = .ok (.iastore, 1) := by decide +kernel
theorem dX1_put_19 : decode cX1_put 19 = .ok (.aload_n 0, 1) := by decide +kernel
theorem dX1_put_20 : decode cX1_put 20 = .ok (.dup, 1) := by decide +kernel
theorem dX1_put_21 : decode cX1_put 21 = .ok (.getfield 15, 3) := by decide +kernel
theorem dX1_put_24 : decode cX1_put 24 = .ok (.iconst 1, 1) := by decide +kernel
theorem dX1_put_25 : decode cX1_put 25 = .ok (.iadd, 1) := by decide +kernel
theorem dX1_put_26 : decode cX1_put 26 = .ok (.putfield 15, 3) := by decide +kernel
theorem dX1_put_29 : decode cX1_put 29 = .ok (.return_, 1) := by decide +kernel
theorem dX1_byteAt_0 : decode cX1_byteAt 0 = .ok (.iload_n 1, 1) := by decide +kernel
theorem dX1_byteAt_1 : decode cX1_byteAt 1 = .ok (.ifCond .lt 20, 3) := by decide +kernel
theorem dX1_byteAt_4 : decode cX1_byteAt 4 = .ok (.iload_n 1, 1) := by decide +kernel
theorem dX1_byteAt_5 : decode cX1_byteAt 5 = .ok (.aload_n 0, 1) := by decide +kernel
theorem dX1_byteAt_6 : decode cX1_byteAt 6 = .ok (.getfield 15, 3) := by decide +kernel
theorem dX1_byteAt_9 : decode cX1_byteAt 9 = .ok (.if_icmp .ge 12, 3) := by decide +kernel
theorem dX1_byteAt_12 : decode cX1_byteAt 12 = .ok (.aload_n 0, 1) := by decide +kernel
theorem dX1_byteAt_13 : decode cX1_byteAt 13 = .ok (.getfield 9, 3) := by decide +kernel
theorem dX1_byteAt_16 : decode cX1_byteAt 16 = .ok (.iload_n 1, 1) := by decide +kernel
theorem dX1_byteAt_17 : decode cX1_byteAt 17 = .ok (.iaload, 1) := by decide +kernel
theorem dX1_byteAt_18 : decode cX1_byteAt 18 = .ok (.goto 4, 3) := by decide +kernel
theorem dX1_byteAt_21 : decode cX1_byteAt 21 = .ok (.iconst 0, 1) := by decide +kernel
theorem dX1_byteAt_22 : decode cX1_byteAt 22 = .ok (.ireturn, 1) := by decide +kernel
set_option maxRecDepth 20000 in
theorem ggX1_digitAt_X1_byteAt : GoodIn wsX1_digitAt wsX1_byteAt := goodIn_r _ [5, 6, 7, 8, 9] rfl (by decide +kernel)
set_option maxRecDepth 20000 in
theorem gX1_digitAt_X1_byteAt : GoodIn wsX1_digitAt (wsV RX1 19 RX1 yX1_byteAt wsX1_byteAt) := goodIn_app (goodIn_r _ [1, 2, 3, 4] rfl (by decide +kernel)) ggX1_digitAt_X1_byteAt
theorem dX1_digitAt_0 : decode cX1_digitAt 0 = .ok (.aload_n 0, 1) := by decide +kernel
theorem dX1_digitAt_1 : decode cX1_digitAt 1 = .ok (.iload_n 1, 1) := by decide +kernel
theorem dX1_digitAt_2 : decode cX1_digitAt 2 = .ok (.invokevirtual 19, 3) := by decide +kernel
theorem dX1_digitAt_5 : decode cX1_digitAt 5 = .ok (.istore_n 2, 1) := by decide +kernel
theorem dX1_digitAt_6 : decode cX1_digitAt 6 = .ok (.iload_n 2, 1) := by decide +kernel
theorem dX1_digitAt_7 : decode cX1_digitAt 7 = .ok (.bipush 50, 2) := by decide +kernel
theorem dX1_digitAt_9 : decode cX1_digitAt 9 = .ok (.if_icmp .lt 16, 3) := by decide +kernel
theorem dX1_digitAt_12 : decode cX1_digitAt 12 = .ok (.iload_n 2, 1) := by decide +kernel
theorem dX1_digitAt_13 : decode cX1_digitAt 13 = .ok (.bipush 52, 2) := by decide +kernel
theorem dX1_digitAt_15 : decode cX1_digitAt 15 = .ok (.if_icmp .gt 10, 3) := by decide +kernel
theorem dX1_digitAt_18 : decode cX1_digitAt 18 = .ok (.iload_n 2, 1) := by decide +kernel
theorem dX1_digitAt_19 : decode cX1_digitAt 19 = .ok (.bipush 48, 2) := by decide +kernel
theorem dX1_digitAt_21 : decode cX1_digitAt 21 = .ok (.isub, 1) := by decide +kernel
theorem dX1_digitAt_22 : decode cX1_digitAt 22 = .ok (.goto 4, 3) := by decide +kernel
theorem dX1_digitAt_25 : decode cX1_digitAt 25 = .ok (.iconst 0, 1) := by decide +kernel
theorem dX1_digitAt_26 : decode cX1_digitAt 26 = .ok (.ireturn, 1) := by decide +kernel
set_option maxRecDepth 20000 in
theorem ggX1_letterAt_X1_byteAt : GoodIn wsX1_letterAt wsX1_byteAt := goodIn_r _ [5, 6, 7, 8, 9] rfl (by decide +kernel)
set_option maxRecDepth 20000 in
theorem gX1_letterAt_X1_byteAt : GoodIn wsX1_letterAt (wsV RX1 19 RX1 yX1_byteAt wsX1_byteAt) := goodIn_app (goodIn_r _ [1, 2, 3, 4] rfl (by decide +kernel)) ggX1_letterAt_X1_byteAt
theorem dX1_letterAt_0 : decode cX1_letterAt 0 = .ok (.aload_n 0, 1) := by decide +kernel
theorem dX1_letterAt_1 : decode cX1_letterAt 1 = .ok (.iload_n 1, 1) := by decide +kernel
theorem dX1_letterAt_2 : decode cX1_letterAt 2 = .ok (.invokevirtual 19, 3) := by decide +kernel
theorem dX1_letterAt_5 : decode cX1_letterAt 5 = .ok (.bipush 97, 2) := by decide +kernel
theorem dX1_letterAt_7 : decode cX1_letterAt 7 = .ok (.isub, 1) := by decide +kernel
theorem dX1_letterAt_8 : decode cX1_letterAt 8 = .ok (.istore_n 3, 1) := by decide +kernel
theorem dX1_letterAt_9 : decode cX1_letterAt 9 = .ok (.iload_n 3, 1) := by decide +kernel
theorem dX1_letterAt_10 : decode cX1_letterAt 10 = .ok (.ifCond .lt 12, 3) := by decide +kernel
theorem dX1_letterAt_13 : decode cX1_letterAt 13 = .ok (.iload_n 3, 1) := by decide +kernel
theorem dX1_letterAt_14 : decode cX1_letterAt 14 = .ok (.iload_n 2, 1) := by decide +kernel
theorem dX1_letterAt_15 : decode cX1_letterAt 15 = .ok (.if_icmp .ge 7, 3) := by decide +kernel
theorem dX1_letterAt_18 : decode cX1_letterAt 18 = .ok (.iload_n 3, 1) := by decide +kernel
theorem dX1_letterAt_19 : decode cX1_letterAt 19 = .ok (.goto 4, 3) := by decide +kernel
theorem dX1_letterAt_22 : decode cX1_letterAt 22 = .ok (.iconst (-1), 1) := by decide +kernel
theorem dX1_letterAt_23 : decode cX1_letterAt 23 = .ok (.ireturn, 1) := by decide +kernel
theorem dX1_kindText_0 : decode cX1_kindText 0 = .ok (.iload_n 0, 1) := by decide +kernel
theorem dX1_kindText_1 : decode cX1_kindText 1 = .ok (.tableswitch 36 0 2 #[27, 30, 33], 27) := by decide +kernel
theorem dX1_kindText_28 : decode cX1_kindText 28 = .ok (.ldc 23, 2) := by decide +kernel
theorem dX1_kindText_30 : decode cX1_kindText 30 = .ok (.areturn, 1) := by decide +kernel
theorem dX1_kindText_31 : decode cX1_kindText 31 = .ok (.ldc 25, 2) := by decide +kernel
theorem dX1_kindText_33 : decode cX1_kindText 33 = .ok (.areturn, 1) := by decide +kernel
theorem dX1_kindText_34 : decode cX1_kindText 34 = .ok (.ldc 27, 2) := by decide +kernel
theorem dX1_kindText_36 : decode cX1_kindText 36 = .ok (.areturn, 1) := by decide +kernel
theorem dX1_kindText_37 : decode cX1_kindText 37 = .ok (.ldc 29, 2) := by decide +kernel
theorem dX1_kindText_39 : decode cX1_kindText 39 = .ok (.areturn, 1) := by decide +kernel
set_option maxRecDepth 20000 in
theorem ggX1_matched_J0_length_8abf5 : GoodIn wsX1_matched wsJ0_length_8abf5 := goodIn_r _ [5, 6, 7, 8, 9, 4, 10, 11, 12] rfl (by decide +kernel)
set_option maxRecDepth 20000 in
theorem gX1_matched_J0_length_8abf5 : GoodIn wsX1_matched (wsV RX1 31 RJ0 yJ0_length_8abf5 wsJ0_length_8abf5) := goodIn_app (goodIn_r _ [1, 2, 3, 4] rfl (by decide +kernel)) ggX1_matched_J0_length_8abf5
set_option maxRecDepth 20000 in
theorem ggX1_matched_X1_byteAt : GoodIn wsX1_matched wsX1_byteAt := goodIn_r _ [17, 18, 19, 57, 58] rfl (by decide +kernel)
set_option maxRecDepth 20000 in
theorem gX1_matched_X1_byteAt : GoodIn wsX1_matched (wsV RX1 19 RX1 yX1_byteAt wsX1_byteAt) := goodIn_app (goodIn_r _ [13, 14, 15, 16] rfl (by decide +kernel)) ggX1_matched_X1_byteAt
set_option maxRecDepth 20000 in
theorem ggX1_matched_J0_charAt_5068e : GoodIn wsX1_matched wsJ0_charAt_5068e := goodIn_r _ [23, 6, 24, 25, 26, 4, 27, 11, 12, 28, 29, 30, 31, 32, 33, 34, 35, 36, 37, 38, 39, 40, 41, 42, 43, 44, 45, 46, 47, 48, 49, 50, 51, 52, 53, 54, 55, 56] rfl (by decide +kernel)
set_option maxRecDepth 20000 in
theorem gX1_matched_J0_charAt_5068e : GoodIn wsX1_matched (wsV RX1 37 RJ0 yJ0_charAt_5068e wsJ0_charAt_5068e) := goodIn_app (goodIn_r _ [20, 21, 22, 4] rfl (by decide +kernel)) ggX1_matched_J0_charAt_5068e
theorem dX1_matched_0 : decode cX1_matched 0 = .ok (.iconst 0, 1) := by decide +kernel
theorem dX1_matched_1 : decode cX1_matched 1 = .ok (.istore_n 2, 1) := by decide +kernel
theorem dX1_matched_2 : decode cX1_matched 2 = .ok (.iload_n 2, 1) := by decide +kernel
theorem dX1_matched_3 : decode cX1_matched 3 = .ok (.aload_n 1, 1) := by decide +kernel
theorem dX1_matched_4 : decode cX1_matched 4 = .ok (.invokevirtual 31, 3) := by decide +kernel
theorem dX1_matched_7 : decode cX1_matched 7 = .ok (.if_icmp .ge 22, 3) := by decide +kernel
theorem dX1_matched_10 : decode cX1_matched 10 = .ok (.aload_n 0, 1) := by decide +kernel
theorem dX1_matched_11 : decode cX1_matched 11 = .ok (.iload_n 2, 1) := by decide +kernel
theorem dX1_matched_12 : decode cX1_matched 12 = .ok (.invokevirtual 19, 3) := by decide +kernel
theorem dX1_matched_15 : decode cX1_matched 15 = .ok (.aload_n 1, 1) := by decide +kernel
theorem dX1_matched_16 : decode cX1_matched 16 = .ok (.iload_n 2, 1) := by decide +kernel
theorem dX1_matched_17 : decode cX1_matched 17 = .ok (.invokevirtual 37, 3) := by decide +kernel
theorem dX1_matched_20 : decode cX1_matched 20 = .ok (.if_icmp .ne 9, 3) := by decide +kernel
theorem dX1_matched_23 : decode cX1_matched 23 = .ok (.iinc 2 1, 3) := by decide +kernel
theorem dX1_matched_26 : decode cX1_matched 26 = .ok (.goto (-24), 3) := by decide +kernel
theorem dX1_matched_29 : decode cX1_matched 29 = .ok (.iload_n 2, 1) := by decide +kernel
theorem dX1_matched_30 : decode cX1_matched 30 = .ok (.ireturn, 1) := by decide +kernel
set_option maxRecDepth 20000 in
theorem ggX1_likeliestKind_X1_kindText : GoodIn wsX1_likeliestKind wsX1_kindText := goodIn_r _ [4] rfl (by decide +kernel)
set_option maxRecDepth 20000 in
theorem gX1_likeliestKind_X1_kindText : GoodIn wsX1_likeliestKind (va_wsS RX1 41 yX1_kindText wsX1_kindText) := goodIn_app (goodIn_r _ [1, 2, 3] rfl (by decide +kernel)) ggX1_likeliestKind_X1_kindText
set_option maxRecDepth 20000 in
theorem ggX1_likeliestKind_X1_matched : GoodIn wsX1_likeliestKind wsX1_matched := goodIn_r _ [8, 9, 10, 11, 12, 13, 14, 15, 16, 17, 18, 19, 20, 21, 22, 23, 3, 24, 25, 26, 27, 28, 29, 30, 31, 32, 33, 34, 35, 36, 37, 38, 39, 40, 41, 42, 43, 44, 45, 46, 47, 48, 49, 50, 51, 52, 53, 54, 55, 56, 57, 58, 59, 60, 61, 62, 63, 64, 65] rfl (by decide +kernel)
set_option maxRecDepth 20000 in
theorem gX1_likeliestKind_X1_matched : GoodIn wsX1_likeliestKind (wsV RX1 45 RX1 yX1_matched wsX1_matched) := goodIn_app (goodIn_r _ [5, 6, 7, 3] rfl (by decide +kernel)) ggX1_likeliestKind_X1_matched
theorem dX1_likeliestKind_0 : decode cX1_likeliestKind 0 = .ok (.iconst 0, 1) := by decide +kernel
theorem dX1_likeliestKind_1 : decode cX1_likeliestKind 1 = .ok (.istore_n 1, 1) := by decide +kernel
theorem dX1_likeliestKind_2 : decode cX1_likeliestKind 2 = .ok (.iconst 1, 1) := by decide +kernel
theorem dX1_likeliestKind_3 : decode cX1_likeliestKind 3 = .ok (.istore_n 2, 1) := by decide +kernel
theorem dX1_likeliestKind_4 : decode cX1_likeliestKind 4 = .ok (.iload_n 2, 1) := by decide +kernel
theorem dX1_likeliestKind_5 : decode cX1_likeliestKind 5 = .ok (.iconst 4, 1) := by decide +kernel
theorem dX1_likeliestKind_6 : decode cX1_likeliestKind 6 = .ok (.if_icmp .ge 30, 3) := by decide +kernel
theorem dX1_likeliestKind_9 : decode cX1_likeliestKind 9 = .ok (.aload_n 0, 1) := by decide +kernel
theorem dX1_likeliestKind_10 : decode cX1_likeliestKind 10 = .ok (.iload_n 2, 1) := by decide +kernel
theorem dX1_likeliestKind_11 : decode cX1_likeliestKind 11 = .ok (.invokestatic 41, 3) := by decide +kernel
theorem dX1_likeliestKind_14 : decode cX1_likeliestKind 14 = .ok (.invokevirtual 45, 3) := by decide +kernel
theorem dX1_likeliestKind_17 : decode cX1_likeliestKind 17 = .ok (.aload_n 0, 1) := by decide +kernel
theorem dX1_likeliestKind_18 : decode cX1_likeliestKind 18 = .ok (.iload_n 1, 1) := by decide +kernel
theorem dX1_likeliestKind_19 : decode cX1_likeliestKind 19 = .ok (.invokestatic 41, 3) := by decide +kernel
theorem dX1_likeliestKind_22 : decode cX1_likeliestKind 22 = .ok (.invokevirtual 45, 3) := by decide +kernel
theorem dX1_likeliestKind_25 : decode cX1_likeliestKind 25 = .ok (.if_icmp .le 5, 3) := by decide +kernel
theorem dX1_likeliestKind_28 : decode cX1_likeliestKind 28 = .ok (.iload_n 2, 1) := by decide +kernel
theorem dX1_likeliestKind_29 : decode cX1_likeliestKind 29 = .ok (.istore_n 1, 1) := by decide +kernel
theorem dX1_likeliestKind_30 : decode cX1_likeliestKind 30 = .ok (.iinc 2 1, 3) := by decide +kernel
theorem dX1_likeliestKind_33 : decode cX1_likeliestKind 33 = .ok (.goto (-29), 3) := by decide +kernel
theorem dX1_likeliestKind_36 : decode cX1_likeliestKind 36 = .ok (.iload_n 1, 1) := by decide +kernel
theorem dX1_likeliestKind_37 : decode cX1_likeliestKind 37 = .ok (.ireturn, 1) := by decide +kernel
set_option maxRecDepth 20000 in
theorem ggX1_problemFault_X1_kindText : GoodIn wsX1_problemFault wsX1_kindText := goodIn_r _ [5] rfl (by decide +kernel)
set_option maxRecDepth 20000 in
theorem gX1_problemFault_X1_kindText : GoodIn wsX1_problemFault (va_wsS RX1 41 yX1_kindText wsX1_kindText) := goodIn_app (goodIn_r _ [2, 3, 4] rfl (by decide +kernel)) ggX1_problemFault_X1_kindText
set_option maxRecDepth 20000 in
theorem ggX1_problemFault_X1_matched : GoodIn wsX1_problemFault wsX1_matched := goodIn_r _ [9, 10, 11, 12, 13, 14, 15, 16, 17, 18, 19, 20, 21, 22, 23, 24, 4, 25, 1, 26, 27, 28, 29, 30, 31, 32, 33, 34, 35, 36, 37, 38, 39, 40, 41, 42, 43, 44, 45, 46, 47, 48, 49, 50, 51, 52, 53, 54, 55, 56, 57, 58, 59, 60, 61, 62, 63, 68, 69] rfl (by decide +kernel)
set_option maxRecDepth 20000 in
theorem gX1_problemFault_X1_matched : GoodIn wsX1_problemFault (wsV RX1 45 RX1 yX1_matched wsX1_matched) := goodIn_app (goodIn_r _ [6, 7, 8, 4] rfl (by decide +kernel)) ggX1_problemFault_X1_matched
set_option maxRecDepth 20000 in
theorem ggX1_problemFault_J0_length_8abf5 : GoodIn wsX1_problemFault wsJ0_length_8abf5 := goodIn_r _ [14, 15, 16, 17, 18, 13, 19, 20, 21] rfl (by decide +kernel)
set_option maxRecDepth 20000 in
theorem gX1_problemFault_J0_length_8abf5 : GoodIn wsX1_problemFault (wsV RX1 31 RJ0 yJ0_length_8abf5 wsJ0_length_8abf5) := goodIn_app (goodIn_r _ [10, 11, 12, 13] rfl (by decide +kernel)) ggX1_problemFault_J0_length_8abf5
set_option maxRecDepth 20000 in
theorem ggX1_problemFault_X1_digitAt : GoodIn wsX1_problemFault wsX1_digitAt := goodIn_r _ [67, 22, 23, 24, 4, 25, 1, 26, 68, 69] rfl (by decide +kernel)
set_option maxRecDepth 20000 in
theorem gX1_problemFault_X1_digitAt : GoodIn wsX1_problemFault (wsV RX1 49 RX1 yX1_digitAt wsX1_digitAt) := goodIn_app (goodIn_r _ [64, 65, 66, 4] rfl (by decide +kernel)) ggX1_problemFault_X1_digitAt
set_option maxRecDepth 20000 in
theorem ggX1_problemFault_X1_byteAt : GoodIn wsX1_problemFault wsX1_byteAt := goodIn_r _ [25, 1, 26, 68, 69] rfl (by decide +kernel)
set_option maxRecDepth 20000 in
theorem gX1_problemFault_X1_byteAt : GoodIn wsX1_problemFault (wsV RX1 19 RX1 yX1_byteAt wsX1_byteAt) := goodIn_app (goodIn_r _ [22, 23, 24, 4] rfl (by decide +kernel)) ggX1_problemFault_X1_byteAt
theorem dX1_problemFault_0 : decode cX1_problemFault 0 = .ok (.iload_n 1, 1) := by decide +kernel
theorem dX1_problemFault_1 : decode cX1_problemFault 1 = .ok (.invokestatic 41, 3) := by decide +kernel
theorem dX1_problemFault_4 : decode cX1_problemFault 4 = .ok (.astore_n 2, 1) := by decide +kernel
theorem dX1_problemFault_5 : decode cX1_problemFault 5 = .ok (.aload_n 0, 1) := by decide +kernel
theorem dX1_problemFault_6 : decode cX1_problemFault 6 = .ok (.aload_n 2, 1) := by decide +kernel
theorem dX1_problemFault_7 : decode cX1_problemFault 7 = .ok (.invokevirtual 45, 3) := by decide +kernel
theorem dX1_problemFault_10 : decode cX1_problemFault 10 = .ok (.istore_n 3, 1) := by decide +kernel
theorem dX1_problemFault_11 : decode cX1_problemFault 11 = .ok (.iload_n 3, 1) := by decide +kernel
theorem dX1_problemFault_12 : decode cX1_problemFault 12 = .ok (.aload_n 2, 1) := by decide +kernel
theorem dX1_problemFault_13 : decode cX1_problemFault 13 = .ok (.invokevirtual 31, 3) := by decide +kernel
theorem dX1_problemFault_16 : decode cX1_problemFault 16 = .ok (.if_icmp .lt 11, 3) := by decide +kernel
theorem dX1_problemFault_19 : decode cX1_problemFault 19 = .ok (.aload_n 0, 1) := by decide +kernel
theorem dX1_problemFault_20 : decode cX1_problemFault 20 = .ok (.iload_n 3, 1) := by decide +kernel
theorem dX1_problemFault_21 : decode cX1_problemFault 21 = .ok (.invokevirtual 49, 3) := by decide +kernel
theorem dX1_problemFault_24 : decode cX1_problemFault 24 = .ok (.ifCond .ne 5, 3) := by decide +kernel
theorem dX1_problemFault_27 : decode cX1_problemFault 27 = .ok (.iload_n 3, 1) := by decide +kernel
theorem dX1_problemFault_28 : decode cX1_problemFault 28 = .ok (.ireturn, 1) := by decide +kernel
theorem dX1_problemFault_29 : decode cX1_problemFault 29 = .ok (.aload_n 0, 1) := by decide +kernel
theorem dX1_problemFault_30 : decode cX1_problemFault 30 = .ok (.iload_n 3, 1) := by decide +kernel
theorem dX1_problemFault_31 : decode cX1_problemFault 31 = .ok (.iconst 1, 1) := by decide +kernel
theorem dX1_problemFault_32 : decode cX1_problemFault 32 = .ok (.iadd, 1) := by decide +kernel
theorem dX1_problemFault_33 : decode cX1_problemFault 33 = .ok (.invokevirtual 19, 3) := by decide +kernel
theorem dX1_problemFault_36 : decode cX1_problemFault 36 = .ok (.bipush 32, 2) := by decide +kernel
theorem dX1_problemFault_38 : decode cX1_problemFault 38 = .ok (.if_icmp .eq 7, 3) := by decide +kernel
theorem dX1_problemFault_41 : decode cX1_problemFault 41 = .ok (.iload_n 3, 1) := by decide +kernel
theorem dX1_problemFault_42 : decode cX1_problemFault 42 = .ok (.iconst 1, 1) := by decide +kernel
theorem dX1_problemFault_43 : decode cX1_problemFault 43 = .ok (.iadd, 1) := by decide +kernel
theorem dX1_problemFault_44 : decode cX1_problemFault 44 = .ok (.ireturn, 1) := by decide +kernel
theorem dX1_problemFault_45 : decode cX1_problemFault 45 = .ok (.aload_n 0, 1) := by decide +kernel
theorem dX1_problemFault_46 : decode cX1_problemFault 46 = .ok (.iload_n 3, 1) := by decide +kernel
theorem dX1_problemFault_47 : decode cX1_problemFault 47 = .ok (.iconst 2, 1) := by decide +kernel
theorem dX1_problemFault_48 : decode cX1_problemFault 48 = .ok (.iadd, 1) := by decide +kernel
theorem dX1_problemFault_49 : decode cX1_problemFault 49 = .ok (.invokevirtual 49, 3) := by decide +kernel
theorem dX1_problemFault_52 : decode cX1_problemFault 52 = .ok (.ifCond .ne 7, 3) := by decide +kernel
theorem dX1_problemFault_55 : decode cX1_problemFault 55 = .ok (.iload_n 3, 1) := by decide +kernel
theorem dX1_problemFault_56 : decode cX1_problemFault 56 = .ok (.iconst 2, 1) := by decide +kernel
theorem dX1_problemFault_57 : decode cX1_problemFault 57 = .ok (.iadd, 1) := by decide +kernel
theorem dX1_problemFault_58 : decode cX1_problemFault 58 = .ok (.ireturn, 1) := by decide +kernel
theorem dX1_problemFault_59 : decode cX1_problemFault 59 = .ok (.aload_n 0, 1) := by decide +kernel
theorem dX1_problemFault_60 : decode cX1_problemFault 60 = .ok (.getfield 15, 3) := by decide +kernel
theorem dX1_problemFault_63 : decode cX1_problemFault 63 = .ok (.iload_n 3, 1) := by decide +kernel
theorem dX1_problemFault_64 : decode cX1_problemFault 64 = .ok (.iconst 3, 1) := by decide +kernel
theorem dX1_problemFault_65 : decode cX1_problemFault 65 = .ok (.iadd, 1) := by decide +kernel
theorem dX1_problemFault_66 : decode cX1_problemFault 66 = .ok (.if_icmp .le 9, 3) := by decide +kernel
theorem dX1_problemFault_69 : decode cX1_problemFault 69 = .ok (.iload_n 3, 1) := by decide +kernel
theorem dX1_problemFault_70 : decode cX1_problemFault 70 = .ok (.iconst 3, 1) := by decide +kernel
theorem dX1_problemFault_71 : decode cX1_problemFault 71 = .ok (.iadd, 1) := by decide +kernel
theorem dX1_problemFault_72 : decode cX1_problemFault 72 = .ok (.goto 4, 3) := by decide +kernel
theorem dX1_problemFault_75 : decode cX1_problemFault 75 = .ok (.iconst (-1), 1) := by decide +kernel
theorem dX1_problemFault_76 : decode cX1_problemFault 76 = .ok (.ireturn, 1) := by decide +kernel
set_option maxRecDepth 20000 in
theorem ggX1_imageFault_X1_letterAt : GoodIn wsX1_imageFault wsX1_letterAt := goodIn_r _ [6, 7, 8, 9, 5, 10, 1, 11, 12, 13] rfl (by decide +kernel)
set_option maxRecDepth 20000 in
theorem gX1_imageFault_X1_letterAt : GoodIn wsX1_imageFault (wsV RX1 52 RX1 yX1_letterAt wsX1_letterAt) := goodIn_app (goodIn_r _ [2, 3, 4, 5] rfl (by decide +kernel)) ggX1_imageFault_X1_letterAt
set_option maxRecDepth 20000 in
theorem ggX1_imageFault_X1_byteAt : GoodIn wsX1_imageFault wsX1_byteAt := goodIn_r _ [10, 1, 11, 12, 13] rfl (by decide +kernel)
set_option maxRecDepth 20000 in
theorem gX1_imageFault_X1_byteAt : GoodIn wsX1_imageFault (wsV RX1 19 RX1 yX1_byteAt wsX1_byteAt) := goodIn_app (goodIn_r _ [7, 8, 9, 5] rfl (by decide +kernel)) ggX1_imageFault_X1_byteAt
theorem dX1_imageFault_0 : decode cX1_imageFault 0 = .ok (.aload_n 0, 1) := by decide +kernel
theorem dX1_imageFault_1 : decode cX1_imageFault 1 = .ok (.iconst 0, 1) := by decide +kernel
theorem dX1_imageFault_2 : decode cX1_imageFault 2 = .ok (.iload_n 1, 1) := by decide +kernel
theorem dX1_imageFault_3 : decode cX1_imageFault 3 = .ok (.invokevirtual 52, 3) := by decide +kernel
theorem dX1_imageFault_6 : decode cX1_imageFault 6 = .ok (.iconst (-1), 1) := by decide +kernel
theorem dX1_imageFault_7 : decode cX1_imageFault 7 = .ok (.if_icmp .ne 5, 3) := by decide +kernel
theorem dX1_imageFault_10 : decode cX1_imageFault 10 = .ok (.iconst 0, 1) := by decide +kernel
theorem dX1_imageFault_11 : decode cX1_imageFault 11 = .ok (.ireturn, 1) := by decide +kernel
theorem dX1_imageFault_12 : decode cX1_imageFault 12 = .ok (.aload_n 0, 1) := by decide +kernel
theorem dX1_imageFault_13 : decode cX1_imageFault 13 = .ok (.iconst 1, 1) := by decide +kernel
theorem dX1_imageFault_14 : decode cX1_imageFault 14 = .ok (.invokevirtual 19, 3) := by decide +kernel
theorem dX1_imageFault_17 : decode cX1_imageFault 17 = .ok (.bipush 58, 2) := by decide +kernel
theorem dX1_imageFault_19 : decode cX1_imageFault 19 = .ok (.if_icmp .eq 5, 3) := by decide +kernel
theorem dX1_imageFault_22 : decode cX1_imageFault 22 = .ok (.iconst 1, 1) := by decide +kernel
theorem dX1_imageFault_23 : decode cX1_imageFault 23 = .ok (.ireturn, 1) := by decide +kernel
theorem dX1_imageFault_24 : decode cX1_imageFault 24 = .ok (.iconst 2, 1) := by decide +kernel
theorem dX1_imageFault_25 : decode cX1_imageFault 25 = .ok (.istore_n 2, 1) := by decide +kernel
theorem dX1_imageFault_26 : decode cX1_imageFault 26 = .ok (.iload_n 2, 1) := by decide +kernel
theorem dX1_imageFault_27 : decode cX1_imageFault 27 = .ok (.bipush 6, 2) := by decide +kernel
theorem dX1_imageFault_29 : decode cX1_imageFault 29 = .ok (.if_icmp .ge 19, 3) := by decide +kernel
theorem dX1_imageFault_32 : decode cX1_imageFault 32 = .ok (.aload_n 0, 1) := by decide +kernel
theorem dX1_imageFault_33 : decode cX1_imageFault 33 = .ok (.iload_n 2, 1) := by decide +kernel
theorem dX1_imageFault_34 : decode cX1_imageFault 34 = .ok (.iload_n 1, 1) := by decide +kernel
theorem dX1_imageFault_35 : decode cX1_imageFault 35 = .ok (.invokevirtual 52, 3) := by decide +kernel
theorem dX1_imageFault_38 : decode cX1_imageFault 38 = .ok (.iconst (-1), 1) := by decide +kernel
theorem dX1_imageFault_39 : decode cX1_imageFault 39 = .ok (.if_icmp .eq 9, 3) := by decide +kernel
theorem dX1_imageFault_42 : decode cX1_imageFault 42 = .ok (.iinc 2 1, 3) := by decide +kernel
theorem dX1_imageFault_45 : decode cX1_imageFault 45 = .ok (.goto (-19), 3) := by decide +kernel
theorem dX1_imageFault_48 : decode cX1_imageFault 48 = .ok (.iload_n 2, 1) := by decide +kernel
theorem dX1_imageFault_49 : decode cX1_imageFault 49 = .ok (.iconst 2, 1) := by decide +kernel
theorem dX1_imageFault_50 : decode cX1_imageFault 50 = .ok (.if_icmp .eq 11, 3) := by decide +kernel
theorem dX1_imageFault_53 : decode cX1_imageFault 53 = .ok (.iload_n 2, 1) := by decide +kernel
theorem dX1_imageFault_54 : decode cX1_imageFault 54 = .ok (.aload_n 0, 1) := by decide +kernel
theorem dX1_imageFault_55 : decode cX1_imageFault 55 = .ok (.getfield 15, 3) := by decide +kernel
theorem dX1_imageFault_58 : decode cX1_imageFault 58 = .ok (.if_icmp .ge 7, 3) := by decide +kernel
theorem dX1_imageFault_61 : decode cX1_imageFault 61 = .ok (.iload_n 2, 1) := by decide +kernel
theorem dX1_imageFault_62 : decode cX1_imageFault 62 = .ok (.goto 4, 3) := by decide +kernel
theorem dX1_imageFault_65 : decode cX1_imageFault 65 = .ok (.iconst (-1), 1) := by decide +kernel
theorem dX1_imageFault_66 : decode cX1_imageFault 66 = .ok (.ireturn, 1) := by decide +kernel
set_option maxRecDepth 20000 in
theorem ggX1_copyImageTo_X9_put : GoodIn wsX1_copyImageTo wsX9_put := goodIn_r _ [8, 9, 10, 11, 12] rfl (by decide +kernel)
set_option maxRecDepth 20000 in
theorem gX1_copyImageTo_X9_put : GoodIn wsX1_copyImageTo (wsV RX1 59 RX9 yX9_put wsX9_put) := goodIn_app (goodIn_r _ [4, 5, 6, 7] rfl (by decide +kernel)) ggX1_copyImageTo_X9_put
theorem dX1_copyImageTo_0 : decode cX1_copyImageTo 0 = .ok (.aload_n 1, 1) := by decide +kernel
theorem dX1_copyImageTo_1 : decode cX1_copyImageTo 1 = .ok (.iconst 0, 1) := by decide +kernel
theorem dX1_copyImageTo_2 : decode cX1_copyImageTo 2 = .ok (.putfield 56, 3) := by decide +kernel
theorem dX1_copyImageTo_5 : decode cX1_copyImageTo 5 = .ok (.iconst 2, 1) := by decide +kernel
theorem dX1_copyImageTo_6 : decode cX1_copyImageTo 6 = .ok (.istore_n 2, 1) := by decide +kernel
theorem dX1_copyImageTo_7 : decode cX1_copyImageTo 7 = .ok (.iload_n 2, 1) := by decide +kernel
theorem dX1_copyImageTo_8 : decode cX1_copyImageTo 8 = .ok (.aload_n 0, 1) := by decide +kernel
theorem dX1_copyImageTo_9 : decode cX1_copyImageTo 9 = .ok (.getfield 15, 3) := by decide +kernel
theorem dX1_copyImageTo_12 : decode cX1_copyImageTo 12 = .ok (.if_icmp .ge 22, 3) := by decide +kernel
theorem dX1_copyImageTo_15 : decode cX1_copyImageTo 15 = .ok (.aload_n 1, 1) := by decide +kernel
theorem dX1_copyImageTo_16 : decode cX1_copyImageTo 16 = .ok (.aload_n 0, 1) := by decide +kernel
theorem dX1_copyImageTo_17 : decode cX1_copyImageTo 17 = .ok (.getfield 9, 3) := by decide +kernel
theorem dX1_copyImageTo_20 : decode cX1_copyImageTo 20 = .ok (.iload_n 2, 1) := by decide +kernel
theorem dX1_copyImageTo_21 : decode cX1_copyImageTo 21 = .ok (.iaload, 1) := by decide +kernel
theorem dX1_copyImageTo_22 : decode cX1_copyImageTo 22 = .ok (.bipush 97, 2) := by decide +kernel
theorem dX1_copyImageTo_24 : decode cX1_copyImageTo 24 = .ok (.isub, 1) := by decide +kernel
theorem dX1_copyImageTo_25 : decode cX1_copyImageTo 25 = .ok (.invokevirtual 59, 3) := by decide +kernel
theorem dX1_copyImageTo_28 : decode cX1_copyImageTo 28 = .ok (.iinc 2 1, 3) := by decide +kernel
theorem dX1_copyImageTo_31 : decode cX1_copyImageTo 31 = .ok (.goto (-24), 3) := by decide +kernel
theorem dX1_copyImageTo_34 : decode cX1_copyImageTo 34 = .ok (.return_, 1) := by decide +kernel
theorem dX2_init_0 : decode cX2_init 0 = .ok (.aload_n 0, 1) := by decide +kernel
theorem dX2_init_1 : decode cX2_init 1 = .ok (.invokespecial 3, 3) := by decide +kernel
theorem dX2_init_4 : decode cX2_init 4 = .ok (.aload_n 0, 1) := by decide +kernel
theorem dX2_init_5 : decode cX2_init 5 = .ok (.bipush 16, 2) := by decide +kernel
theorem dX2_init_7 : decode cX2_init 7 = .ok (.newarray .int, 2) := by decide +kernel
theorem dX2_init_9 : decode cX2_init 9 = .ok (.putfield 9, 3) := by decide +kernel
theorem dX2_init_12 : decode cX2_init 12 = .ok (.return_, 1) := by decide +kernel
set_option maxRecDepth 20000 in
theorem ggX2_load_X9_count : GoodIn wsX2_load wsX9_count := goodIn_r _ [10, 11, 12, 13, 14, 15, 16, 25, 26] rfl (by decide +kernel)
set_option maxRecDepth 20000 in
theorem gX2_load_X9_count : GoodIn wsX2_load (wsV RX2 31 RX9 yX9_count wsX9_count) := goodIn_app (goodIn_r _ [6, 7, 8, 9] rfl (by decide +kernel)) ggX2_load_X9_count
theorem dX2_load_0 : decode cX2_load 0 = .ok (.aload_n 0, 1) := by decide +kernel
theorem dX2_load_1 : decode cX2_load 1 = .ok (.aload_n 1, 1) := by decide +kernel
theorem dX2_load_2 : decode cX2_load 2 = .ok (.getfield 15, 3) := by decide +kernel
theorem dX2_load_5 : decode cX2_load 5 = .ok (.putfield 21, 3) := by decide +kernel
theorem dX2_load_8 : decode cX2_load 8 = .ok (.iconst 0, 1) := by decide +kernel
theorem dX2_load_9 : decode cX2_load 9 = .ok (.istore_n 2, 1) := by decide +kernel
theorem dX2_load_10 : decode cX2_load 10 = .ok (.iload_n 2, 1) := by decide +kernel
theorem dX2_load_11 : decode cX2_load 11 = .ok (.aload_n 0, 1) := by decide +kernel
theorem dX2_load_12 : decode cX2_load 12 = .ok (.getfield 21, 3) := by decide +kernel
theorem dX2_load_15 : decode cX2_load 15 = .ok (.if_icmp .ge 55, 3) := by decide +kernel
theorem dX2_load_18 : decode cX2_load 18 = .ok (.iconst 0, 1) := by decide +kernel
theorem dX2_load_19 : decode cX2_load 19 = .ok (.istore_n 3, 1) := by decide +kernel
theorem dX2_load_20 : decode cX2_load 20 = .ok (.iload_n 3, 1) := by decide +kernel
theorem dX2_load_21 : decode cX2_load 21 = .ok (.aload_n 0, 1) := by decide +kernel
theorem dX2_load_22 : decode cX2_load 22 = .ok (.getfield 21, 3) := by decide +kernel
theorem dX2_load_25 : decode cX2_load 25 = .ok (.if_icmp .ge 39, 3) := by decide +kernel
theorem dX2_load_28 : decode cX2_load 28 = .ok (.aload_n 1, 1) := by decide +kernel
theorem dX2_load_29 : decode cX2_load 29 = .ok (.getfield 24, 3) := by decide +kernel
theorem dX2_load_32 : decode cX2_load 32 = .ok (.iload_n 3, 1) := by decide +kernel
theorem dX2_load_33 : decode cX2_load 33 = .ok (.aaload, 1) := by decide +kernel
theorem dX2_load_34 : decode cX2_load 34 = .ok (.astore 4, 2) := by decide +kernel
theorem dX2_load_36 : decode cX2_load 36 = .ok (.aload_n 0, 1) := by decide +kernel
theorem dX2_load_37 : decode cX2_load 37 = .ok (.getfield 9, 3) := by decide +kernel
theorem dX2_load_40 : decode cX2_load 40 = .ok (.iconst 4, 1) := by decide +kernel
theorem dX2_load_41 : decode cX2_load 41 = .ok (.iload_n 2, 1) := by decide +kernel
theorem dX2_load_42 : decode cX2_load 42 = .ok (.imul, 1) := by decide +kernel
theorem dX2_load_43 : decode cX2_load 43 = .ok (.iload_n 3, 1) := by decide +kernel
theorem dX2_load_44 : decode cX2_load 44 = .ok (.iadd, 1) := by decide +kernel
theorem dX2_load_45 : decode cX2_load 45 = .ok (.aload 4, 2) := by decide +kernel
theorem dX2_load_47 : decode cX2_load 47 = .ok (.iload_n 2, 1) := by decide +kernel
theorem dX2_load_48 : decode cX2_load 48 = .ok (.iconst 0, 1) := by decide +kernel
theorem dX2_load_49 : decode cX2_load 49 = .ok (.aload 4, 2) := by decide +kernel
theorem dX2_load_51 : decode cX2_load 51 = .ok (.getfield 28, 3) := by decide +kernel
theorem dX2_load_54 : decode cX2_load 54 = .ok (.invokevirtual 31, 3) := by decide +kernel
theorem dX2_load_57 : decode cX2_load 57 = .ok (.iastore, 1) := by decide +kernel
theorem dX2_load_58 : decode cX2_load 58 = .ok (.iinc 3 1, 3) := by decide +kernel
theorem dX2_load_61 : decode cX2_load 61 = .ok (.goto (-41), 3) := by decide +kernel
theorem dX2_load_64 : decode cX2_load 64 = .ok (.iinc 2 1, 3) := by decide +kernel
theorem dX2_load_67 : decode cX2_load 67 = .ok (.goto (-57), 3) := by decide +kernel
theorem dX2_load_70 : decode cX2_load 70 = .ok (.return_, 1) := by decide +kernel
set_option maxRecDepth 20000 in
theorem ggX2_wholeMinor_X2_allColumns : GoodIn wsX2_wholeMinor wsX2_allColumns := goodIn_r _ [7, 2, 11, 12] rfl (by decide +kernel)
set_option maxRecDepth 20000 in
theorem gX2_wholeMinor_X2_allColumns : GoodIn wsX2_wholeMinor (wsV RX2 35 RX2 yX2_allColumns wsX2_allColumns) := goodIn_app (goodIn_r _ [3, 4, 5, 6] rfl (by decide +kernel)) ggX2_wholeMinor_X2_allColumns
set_option maxRecDepth 20000 in
theorem ggX2_wholeMinor_X2_minor : GoodIn wsX2_wholeMinor wsX2_minor := goodIn_r _ [10, 8, 9, 6] rfl (by decide +kernel)
set_option maxRecDepth 20000 in
theorem gX2_wholeMinor_X2_minor : GoodIn wsX2_wholeMinor (va_wsS RX2 39 yX2_minor wsX2_minor) := goodIn_app (goodIn_r _ [8, 9, 6] rfl (by decide +kernel)) ggX2_wholeMinor_X2_minor
theorem dX2_wholeMinor_0 : decode cX2_wholeMinor 0 = .ok (.aload_n 0, 1) := by decide +kernel
theorem dX2_wholeMinor_1 : decode cX2_wholeMinor 1 = .ok (.getfield 9, 3) := by decide +kernel
theorem dX2_wholeMinor_4 : decode cX2_wholeMinor 4 = .ok (.aload_n 0, 1) := by decide +kernel
theorem dX2_wholeMinor_5 : decode cX2_wholeMinor 5 = .ok (.getfield 21, 3) := by decide +kernel
theorem dX2_wholeMinor_8 : decode cX2_wholeMinor 8 = .ok (.iconst 0, 1) := by decide +kernel
theorem dX2_wholeMinor_9 : decode cX2_wholeMinor 9 = .ok (.aload_n 0, 1) := by decide +kernel
theorem dX2_wholeMinor_10 : decode cX2_wholeMinor 10 = .ok (.getfield 21, 3) := by decide +kernel
theorem dX2_wholeMinor_13 : decode cX2_wholeMinor 13 = .ok (.aload_n 0, 1) := by decide +kernel
theorem dX2_wholeMinor_14 : decode cX2_wholeMinor 14 = .ok (.invokevirtual 35, 3) := by decide +kernel
theorem dX2_wholeMinor_17 : decode cX2_wholeMinor 17 = .ok (.invokestatic 39, 3) := by decide +kernel
theorem dX2_wholeMinor_20 : decode cX2_wholeMinor 20 = .ok (.ireturn, 1) := by decide +kernel
set_option maxRecDepth 20000 in
theorem ggX2_adjugate_X2_allColumns : GoodIn wsX2_adjugate wsX2_allColumns := goodIn_r _ [7, 2, 11, 12] rfl (by decide +kernel)
set_option maxRecDepth 20000 in
theorem gX2_adjugate_X2_allColumns : GoodIn wsX2_adjugate (wsV RX2 35 RX2 yX2_allColumns wsX2_allColumns) := goodIn_app (goodIn_r _ [3, 4, 5, 6] rfl (by decide +kernel)) ggX2_adjugate_X2_allColumns
set_option maxRecDepth 20000 in
theorem ggX2_adjugate_X2_minor : GoodIn wsX2_adjugate wsX2_minor := goodIn_r _ [10, 8, 9, 6] rfl (by decide +kernel)
set_option maxRecDepth 20000 in
theorem gX2_adjugate_X2_minor : GoodIn wsX2_adjugate (va_wsS RX2 39 yX2_minor wsX2_minor) := goodIn_app (goodIn_r _ [8, 9, 6] rfl (by decide +kernel)) ggX2_adjugate_X2_minor
theorem dX2_adjugate_0 : decode cX2_adjugate 0 = .ok (.aload_n 0, 1) := by decide +kernel
theorem dX2_adjugate_1 : decode cX2_adjugate 1 = .ok (.getfield 9, 3) := by decide +kernel
theorem dX2_adjugate_4 : decode cX2_adjugate 4 = .ok (.aload_n 0, 1) := by decide +kernel
theorem dX2_adjugate_5 : decode cX2_adjugate 5 = .ok (.getfield 21, 3) := by decide +kernel
theorem dX2_adjugate_8 : decode cX2_adjugate 8 = .ok (.iconst 0, 1) := by decide +kernel
theorem dX2_adjugate_9 : decode cX2_adjugate 9 = .ok (.iload_n 2, 1) := by decide +kernel
theorem dX2_adjugate_10 : decode cX2_adjugate 10 = .ok (.aload_n 0, 1) := by decide +kernel
theorem dX2_adjugate_11 : decode cX2_adjugate 11 = .ok (.invokevirtual 35, 3) := by decide +kernel
theorem dX2_adjugate_14 : decode cX2_adjugate 14 = .ok (.iconst 1, 1) := by decide +kernel
theorem dX2_adjugate_15 : decode cX2_adjugate 15 = .ok (.iload_n 1, 1) := by decide +kernel
theorem dX2_adjugate_16 : decode cX2_adjugate 16 = .ok (.ishl, 1) := by decide +kernel
theorem dX2_adjugate_17 : decode cX2_adjugate 17 = .ok (.iconst (-1), 1) := by decide +kernel
theorem dX2_adjugate_18 : decode cX2_adjugate 18 = .ok (.ixor, 1) := by decide +kernel
theorem dX2_adjugate_19 : decode cX2_adjugate 19 = .ok (.iand, 1) := by decide +kernel
theorem dX2_adjugate_20 : decode cX2_adjugate 20 = .ok (.invokestatic 39, 3) := by decide +kernel
theorem dX2_adjugate_23 : decode cX2_adjugate 23 = .ok (.istore_n 3, 1) := by decide +kernel
theorem dX2_adjugate_24 : decode cX2_adjugate 24 = .ok (.iload_n 1, 1) := by decide +kernel
theorem dX2_adjugate_25 : decode cX2_adjugate 25 = .ok (.iload_n 2, 1) := by decide +kernel
theorem dX2_adjugate_26 : decode cX2_adjugate 26 = .ok (.iadd, 1) := by decide +kernel
theorem dX2_adjugate_27 : decode cX2_adjugate 27 = .ok (.iconst 2, 1) := by decide +kernel
theorem dX2_adjugate_28 : decode cX2_adjugate 28 = .ok (.irem, 1) := by decide +kernel
theorem dX2_adjugate_29 : decode cX2_adjugate 29 = .ok (.ifCond .ne 7, 3) := by decide +kernel
theorem dX2_adjugate_32 : decode cX2_adjugate 32 = .ok (.iload_n 3, 1) := by decide +kernel
theorem dX2_adjugate_33 : decode cX2_adjugate 33 = .ok (.goto 5, 3) := by decide +kernel
theorem dX2_adjugate_36 : decode cX2_adjugate 36 = .ok (.iload_n 3, 1) := by decide +kernel
theorem dX2_adjugate_37 : decode cX2_adjugate 37 = .ok (.ineg, 1) := by decide +kernel
theorem dX2_adjugate_38 : decode cX2_adjugate 38 = .ok (.ireturn, 1) := by decide +kernel
theorem dX2_allColumns_0 : decode cX2_allColumns 0 = .ok (.iconst 1, 1) := by decide +kernel
theorem dX2_allColumns_1 : decode cX2_allColumns 1 = .ok (.aload_n 0, 1) := by decide +kernel
theorem dX2_allColumns_2 : decode cX2_allColumns 2 = .ok (.getfield 21, 3) := by decide +kernel
theorem dX2_allColumns_5 : decode cX2_allColumns 5 = .ok (.ishl, 1) := by decide +kernel
theorem dX2_allColumns_6 : decode cX2_allColumns 6 = .ok (.iconst 1, 1) := by decide +kernel
theorem dX2_allColumns_7 : decode cX2_allColumns 7 = .ok (.isub, 1) := by decide +kernel
theorem dX2_allColumns_8 : decode cX2_allColumns 8 = .ok (.ireturn, 1) := by decide +kernel
set_option maxRecDepth 20000 in
theorem ggX2_minor_X2_minor : GoodIn wsX2_minor wsX2_minor := goodIn_r _ [0, 1, 2, 3] rfl (by decide +kernel)
set_option maxRecDepth 20000 in
theorem gX2_minor_X2_minor : GoodIn wsX2_minor (va_wsS RX2 39 yX2_minor wsX2_minor) := goodIn_app (goodIn_r _ [1, 2, 3] rfl (by decide +kernel)) ggX2_minor_X2_minor
theorem dX2_minor_0 : decode cX2_minor 0 = .ok (.iload_n 2, 1) := by decide +kernel
theorem dX2_minor_1 : decode cX2_minor 1 = .ok (.iload_n 1, 1) := by decide +kernel
theorem dX2_minor_2 : decode cX2_minor 2 = .ok (.if_icmp .ge 8, 3) := by decide +kernel
theorem dX2_minor_5 : decode cX2_minor 5 = .ok (.iload_n 2, 1) := by decide +kernel
theorem dX2_minor_6 : decode cX2_minor 6 = .ok (.iconst 4, 1) := by decide +kernel
theorem dX2_minor_7 : decode cX2_minor 7 = .ok (.if_icmp .lt 5, 3) := by decide +kernel
theorem dX2_minor_10 : decode cX2_minor 10 = .ok (.iconst 1, 1) := by decide +kernel
theorem dX2_minor_11 : decode cX2_minor 11 = .ok (.ireturn, 1) := by decide +kernel
theorem dX2_minor_12 : decode cX2_minor 12 = .ok (.iload_n 2, 1) := by decide +kernel
theorem dX2_minor_13 : decode cX2_minor 13 = .ok (.iload_n 3, 1) := by decide +kernel
theorem dX2_minor_14 : decode cX2_minor 14 = .ok (.if_icmp .ne 15, 3) := by decide +kernel
theorem dX2_minor_17 : decode cX2_minor 17 = .ok (.aload_n 0, 1) := by decide +kernel
theorem dX2_minor_18 : decode cX2_minor 18 = .ok (.iload_n 1, 1) := by decide +kernel
theorem dX2_minor_19 : decode cX2_minor 19 = .ok (.iload_n 2, 1) := by decide +kernel
theorem dX2_minor_20 : decode cX2_minor 20 = .ok (.iconst 1, 1) := by decide +kernel
theorem dX2_minor_21 : decode cX2_minor 21 = .ok (.iadd, 1) := by decide +kernel
theorem dX2_minor_22 : decode cX2_minor 22 = .ok (.iload_n 3, 1) := by decide +kernel
theorem dX2_minor_23 : decode cX2_minor 23 = .ok (.iload 4, 2) := by decide +kernel
theorem dX2_minor_25 : decode cX2_minor 25 = .ok (.invokestatic 39, 3) := by decide +kernel
theorem dX2_minor_28 : decode cX2_minor 28 = .ok (.ireturn, 1) := by decide +kernel
theorem dX2_minor_29 : decode cX2_minor 29 = .ok (.iconst 0, 1) := by decide +kernel
theorem dX2_minor_30 : decode cX2_minor 30 = .ok (.istore 5, 2) := by decide +kernel
theorem dX2_minor_32 : decode cX2_minor 32 = .ok (.iconst 1, 1) := by decide +kernel
theorem dX2_minor_33 : decode cX2_minor 33 = .ok (.istore 6, 2) := by decide +kernel
theorem dX2_minor_35 : decode cX2_minor 35 = .ok (.iconst 0, 1) := by decide +kernel
theorem dX2_minor_36 : decode cX2_minor 36 = .ok (.istore 7, 2) := by decide +kernel
theorem dX2_minor_38 : decode cX2_minor 38 = .ok (.iload 7, 2) := by decide +kernel
theorem dX2_minor_40 : decode cX2_minor 40 = .ok (.iload_n 1, 1) := by decide +kernel
theorem dX2_minor_41 : decode cX2_minor 41 = .ok (.if_icmp .ge 68, 3) := by decide +kernel
theorem dX2_minor_44 : decode cX2_minor 44 = .ok (.iload 4, 2) := by decide +kernel
theorem dX2_minor_46 : decode cX2_minor 46 = .ok (.iload 7, 2) := by decide +kernel
theorem dX2_minor_48 : decode cX2_minor 48 = .ok (.ishr, 1) := by decide +kernel
theorem dX2_minor_49 : decode cX2_minor 49 = .ok (.iconst 1, 1) := by decide +kernel
theorem dX2_minor_50 : decode cX2_minor 50 = .ok (.iand, 1) := by decide +kernel
theorem dX2_minor_51 : decode cX2_minor 51 = .ok (.ifCond .eq 52, 3) := by decide +kernel
theorem dX2_minor_54 : decode cX2_minor 54 = .ok (.aload_n 0, 1) := by decide +kernel
theorem dX2_minor_55 : decode cX2_minor 55 = .ok (.iconst 4, 1) := by decide +kernel
theorem dX2_minor_56 : decode cX2_minor 56 = .ok (.iload_n 2, 1) := by decide +kernel
theorem dX2_minor_57 : decode cX2_minor 57 = .ok (.imul, 1) := by decide +kernel
theorem dX2_minor_58 : decode cX2_minor 58 = .ok (.iload 7, 2) := by decide +kernel
theorem dX2_minor_60 : decode cX2_minor 60 = .ok (.iadd, 1) := by decide +kernel
theorem dX2_minor_61 : decode cX2_minor 61 = .ok (.iaload, 1) := by decide +kernel
theorem dX2_minor_62 : decode cX2_minor 62 = .ok (.istore 8, 2) := by decide +kernel
theorem dX2_minor_64 : decode cX2_minor 64 = .ok (.iload 8, 2) := by decide +kernel
theorem dX2_minor_66 : decode cX2_minor 66 = .ok (.ifCond .eq 32, 3) := by decide +kernel
theorem dX2_minor_69 : decode cX2_minor 69 = .ok (.iload 5, 2) := by decide +kernel
theorem dX2_minor_71 : decode cX2_minor 71 = .ok (.iload 6, 2) := by decide +kernel
theorem dX2_minor_73 : decode cX2_minor 73 = .ok (.iload 8, 2) := by decide +kernel
theorem dX2_minor_75 : decode cX2_minor 75 = .ok (.imul, 1) := by decide +kernel
theorem dX2_minor_76 : decode cX2_minor 76 = .ok (.aload_n 0, 1) := by decide +kernel
theorem dX2_minor_77 : decode cX2_minor 77 = .ok (.iload_n 1, 1) := by decide +kernel
theorem dX2_minor_78 : decode cX2_minor 78 = .ok (.iload_n 2, 1) := by decide +kernel
theorem dX2_minor_79 : decode cX2_minor 79 = .ok (.iconst 1, 1) := by decide +kernel
theorem dX2_minor_80 : decode cX2_minor 80 = .ok (.iadd, 1) := by decide +kernel
theorem dX2_minor_81 : decode cX2_minor 81 = .ok (.iload_n 3, 1) := by decide +kernel
theorem dX2_minor_82 : decode cX2_minor 82 = .ok (.iload 4, 2) := by decide +kernel
theorem dX2_minor_84 : decode cX2_minor 84 = .ok (.iconst 1, 1) := by decide +kernel
theorem dX2_minor_85 : decode cX2_minor 85 = .ok (.iload 7, 2) := by decide +kernel
theorem dX2_minor_87 : decode cX2_minor 87 = .ok (.ishl, 1) := by decide +kernel
theorem dX2_minor_88 : decode cX2_minor 88 = .ok (.iconst (-1), 1) := by decide +kernel
theorem dX2_minor_89 : decode cX2_minor 89 = .ok (.ixor, 1) := by decide +kernel
theorem dX2_minor_90 : decode cX2_minor 90 = .ok (.iand, 1) := by decide +kernel
theorem dX2_minor_91 : decode cX2_minor 91 = .ok (.invokestatic 39, 3) := by decide +kernel
theorem dX2_minor_94 : decode cX2_minor 94 = .ok (.imul, 1) := by decide +kernel
theorem dX2_minor_95 : decode cX2_minor 95 = .ok (.iadd, 1) := by decide +kernel
theorem dX2_minor_96 : decode cX2_minor 96 = .ok (.istore 5, 2) := by decide +kernel
theorem dX2_minor_98 : decode cX2_minor 98 = .ok (.iload 6, 2) := by decide +kernel
theorem dX2_minor_100 : decode cX2_minor 100 = .ok (.ineg, 1) := by decide +kernel
theorem dX2_minor_101 : decode cX2_minor 101 = .ok (.istore 6, 2) := by decide +kernel
theorem dX2_minor_103 : decode cX2_minor 103 = .ok (.iinc 7 1, 3) := by decide +kernel
theorem dX2_minor_106 : decode cX2_minor 106 = .ok (.goto (-68), 3) := by decide +kernel
theorem dX2_minor_109 : decode cX2_minor 109 = .ok (.iload 5, 2) := by decide +kernel
theorem dX2_minor_111 : decode cX2_minor 111 = .ok (.ireturn, 1) := by decide +kernel
theorem dX3_init_0 : decode cX3_init 0 = .ok (.aload_n 0, 1) := by decide +kernel
theorem dX3_init_1 : decode cX3_init 1 = .ok (.invokespecial 3, 3) := by decide +kernel
theorem dX3_init_4 : decode cX3_init 4 = .ok (.aload_n 0, 1) := by decide +kernel
theorem dX3_init_5 : decode cX3_init 5 = .ok (.bipush 41, 2) := by decide +kernel
theorem dX3_init_7 : decode cX3_init 7 = .ok (.newarray .long, 2) := by decide +kernel
theorem dX3_init_9 : decode cX3_init 9 = .ok (.putfield 9, 3) := by decide +kernel
theorem dX3_init_12 : decode cX3_init 12 = .ok (.return_, 1) := by decide +kernel
theorem dX3_renew_0 : decode cX3_renew 0 = .ok (.aload_n 0, 1) := by decide +kernel
theorem dX3_renew_1 : decode cX3_renew 1 = .ok (.iconst 1, 1) := by decide +kernel
theorem dX3_renew_2 : decode cX3_renew 2 = .ok (.putfield 15, 3) := by decide +kernel
theorem dX3_renew_5 : decode cX3_renew 5 = .ok (.aload_n 0, 1) := by decide +kernel
theorem dX3_renew_6 : decode cX3_renew 6 = .ok (.iload_n 1, 1) := by decide +kernel
theorem dX3_renew_7 : decode cX3_renew 7 = .ok (.bipush 41, 2) := by decide +kernel
theorem dX3_renew_9 : decode cX3_renew 9 = .ok (.invokestatic 19, 3) := by decide +kernel
theorem dX3_renew_12 : decode cX3_renew 12 = .ok (.putfield 25, 3) := by decide +kernel
theorem dX3_renew_15 : decode cX3_renew 15 = .ok (.iconst 0, 1) := by decide +kernel
theorem dX3_renew_16 : decode cX3_renew 16 = .ok (.istore_n 2, 1) := by decide +kernel
theorem dX3_renew_17 : decode cX3_renew 17 = .ok (.iload_n 2, 1) := by decide +kernel
theorem dX3_renew_18 : decode cX3_renew 18 = .ok (.bipush 41, 2) := by decide +kernel
theorem dX3_renew_20 : decode cX3_renew 20 = .ok (.if_icmp .ge 16, 3) := by decide +kernel
theorem dX3_renew_23 : decode cX3_renew 23 = .ok (.aload_n 0, 1) := by decide +kernel
theorem dX3_renew_24 : decode cX3_renew 24 = .ok (.getfield 9, 3) := by decide +kernel
theorem dX3_renew_27 : decode cX3_renew 27 = .ok (.iload_n 2, 1) := by decide +kernel
theorem dX3_renew_28 : decode cX3_renew 28 = .ok (.lconst 0, 1) := by decide +kernel
theorem dX3_renew_29 : decode cX3_renew 29 = .ok (.lastore, 1) := by decide +kernel
theorem dX3_renew_30 : decode cX3_renew 30 = .ok (.iinc 2 1, 3) := by decide +kernel
theorem dX3_renew_33 : decode cX3_renew 33 = .ok (.goto (-16), 3) := by decide +kernel
theorem dX3_renew_36 : decode cX3_renew 36 = .ok (.return_, 1) := by decide +kernel
theorem dX3_has_0 : decode cX3_has 0 = .ok (.aload_n 0, 1) := by decide +kernel
theorem dX3_has_1 : decode cX3_has 1 = .ok (.getfield 15, 3) := by decide +kernel
theorem dX3_has_4 : decode cX3_has 4 = .ok (.ifCond .eq 19, 3) := by decide +kernel
theorem dX3_has_7 : decode cX3_has 7 = .ok (.iload_n 1, 1) := by decide +kernel
theorem dX3_has_8 : decode cX3_has 8 = .ok (.ifCond .lt 15, 3) := by decide +kernel
theorem dX3_has_11 : decode cX3_has 11 = .ok (.iload_n 1, 1) := by decide +kernel
theorem dX3_has_12 : decode cX3_has 12 = .ok (.aload_n 0, 1) := by decide +kernel
theorem dX3_has_13 : decode cX3_has 13 = .ok (.getfield 25, 3) := by decide +kernel
theorem dX3_has_16 : decode cX3_has 16 = .ok (.if_icmp .ge 7, 3) := by decide +kernel
theorem dX3_has_19 : decode cX3_has 19 = .ok (.iconst 1, 1) := by decide +kernel
theorem dX3_has_20 : decode cX3_has 20 = .ok (.goto 4, 3) := by decide +kernel
theorem dX3_has_23 : decode cX3_has 23 = .ok (.iconst 0, 1) := by decide +kernel
theorem dX3_has_24 : decode cX3_has 24 = .ok (.ireturn, 1) := by decide +kernel
theorem dX4_init_0 : decode cX4_init 0 = .ok (.aload_n 0, 1) := by decide +kernel
theorem dX4_init_1 : decode cX4_init 1 = .ok (.invokespecial 3, 3) := by decide +kernel
theorem dX4_init_4 : decode cX4_init 4 = .ok (.return_, 1) := by decide +kernel
set_option maxRecDepth 20000 in
theorem ggX4_seek_X8_pop : GoodIn wsX4_seek wsX8_pop := goodIn_r _ [12, 13, 14, 52, 53, 54, 55, 56, 57, 58, 59, 60] rfl (by decide +kernel)
set_option maxRecDepth 20000 in
theorem gX4_seek_X8_pop : GoodIn wsX4_seek (wsV RX4 21 RX8 yX8_pop wsX8_pop) := goodIn_app (goodIn_r _ [8, 9, 10, 11] rfl (by decide +kernel)) ggX4_seek_X8_pop
set_option maxRecDepth 20000 in
theorem ggX4_seek_X8_push : GoodIn wsX4_seek wsX8_push := goodIn_r _ [18, 13, 14, 19, 20, 21, 22, 5, 6, 7, 23, 24, 25, 26, 11, 27, 28, 29, 52, 53, 54, 55, 56, 57, 58, 59, 60] rfl (by decide +kernel)
set_option maxRecDepth 20000 in
theorem gX4_seek_X8_push : GoodIn wsX4_seek (wsV RX4 25 RX8 yX8_push wsX8_push) := goodIn_app (goodIn_r _ [15, 16, 17, 11] rfl (by decide +kernel)) ggX4_seek_X8_push
set_option maxRecDepth 20000 in
theorem ggX4_seek_X8_shortestPowerAtEnd : GoodIn wsX4_seek wsX8_shortestPowerAtEnd := goodIn_r _ [33, 13, 34, 35, 36, 37, 11, 38, 39, 40, 41, 42, 23, 19, 14, 43, 44, 45, 46, 47, 48, 49, 50, 28, 29, 52, 53, 54, 55, 56, 57, 58, 59, 60] rfl (by decide +kernel)
set_option maxRecDepth 20000 in
theorem gX4_seek_X8_shortestPowerAtEnd : GoodIn wsX4_seek (wsV RX4 29 RX8 yX8_shortestPowerAtEnd wsX8_shortestPowerAtEnd) := goodIn_app (goodIn_r _ [30, 31, 32, 11] rfl (by decide +kernel)) ggX4_seek_X8_shortestPowerAtEnd
theorem dX4_seek_0 : decode cX4_seek 0 = .ok (.iconst 0, 1) := by decide +kernel
theorem dX4_seek_1 : decode cX4_seek 1 = .ok (.istore 4, 2) := by decide +kernel
theorem dX4_seek_3 : decode cX4_seek 3 = .ok (.iconst 0, 1) := by decide +kernel
theorem dX4_seek_4 : decode cX4_seek 4 = .ok (.istore 5, 2) := by decide +kernel
theorem dX4_seek_6 : decode cX4_seek 6 = .ok (.aload_n 0, 1) := by decide +kernel
theorem dX4_seek_7 : decode cX4_seek 7 = .ok (.iconst 0, 1) := by decide +kernel
theorem dX4_seek_8 : decode cX4_seek 8 = .ok (.putfield 9, 3) := by decide +kernel
theorem dX4_seek_11 : decode cX4_seek 11 = .ok (.iconst 0, 1) := by decide +kernel
theorem dX4_seek_12 : decode cX4_seek 12 = .ok (.istore 6, 2) := by decide +kernel
theorem dX4_seek_14 : decode cX4_seek 14 = .ok (.iload 6, 2) := by decide +kernel
theorem dX4_seek_16 : decode cX4_seek 16 = .ok (.ldc 15, 2) := by decide +kernel
theorem dX4_seek_18 : decode cX4_seek 18 = .ok (.if_icmp .ge 103, 3) := by decide +kernel
theorem dX4_seek_21 : decode cX4_seek 21 = .ok (.iload 5, 2) := by decide +kernel
theorem dX4_seek_23 : decode cX4_seek 23 = .ok (.iload_n 3, 1) := by decide +kernel
theorem dX4_seek_24 : decode cX4_seek 24 = .ok (.if_icmp .lt 24, 3) := by decide +kernel
theorem dX4_seek_27 : decode cX4_seek 27 = .ok (.aload_n 1, 1) := by decide +kernel
theorem dX4_seek_28 : decode cX4_seek 28 = .ok (.getfield 16, 3) := by decide +kernel
theorem dX4_seek_31 : decode cX4_seek 31 = .ok (.ifCond .ne 6, 3) := by decide +kernel
theorem dX4_seek_34 : decode cX4_seek 34 = .ok (.bipush (-2), 2) := by decide +kernel
theorem dX4_seek_36 : decode cX4_seek 36 = .ok (.ireturn, 1) := by decide +kernel
theorem dX4_seek_37 : decode cX4_seek 37 = .ok (.aload_n 1, 1) := by decide +kernel
theorem dX4_seek_38 : decode cX4_seek 38 = .ok (.invokevirtual 21, 3) := by decide +kernel
theorem dX4_seek_41 : decode cX4_seek 41 = .ok (.iconst 1, 1) := by decide +kernel
theorem dX4_seek_42 : decode cX4_seek 42 = .ok (.iadd, 1) := by decide +kernel
theorem dX4_seek_43 : decode cX4_seek 43 = .ok (.istore 5, 2) := by decide +kernel
theorem dX4_seek_45 : decode cX4_seek 45 = .ok (.goto 70, 3) := by decide +kernel
theorem dX4_seek_48 : decode cX4_seek 48 = .ok (.iload 4, 2) := by decide +kernel
theorem dX4_seek_50 : decode cX4_seek 50 = .ok (.sipush 20000, 3) := by decide +kernel
theorem dX4_seek_53 : decode cX4_seek 53 = .ok (.if_icmp .ne 6, 3) := by decide +kernel
theorem dX4_seek_56 : decode cX4_seek 56 = .ok (.bipush (-4), 2) := by decide +kernel
theorem dX4_seek_58 : decode cX4_seek 58 = .ok (.ireturn, 1) := by decide +kernel
theorem dX4_seek_59 : decode cX4_seek 59 = .ok (.iinc 4 1, 3) := by decide +kernel
theorem dX4_seek_62 : decode cX4_seek 62 = .ok (.aload_n 1, 1) := by decide +kernel
theorem dX4_seek_63 : decode cX4_seek 63 = .ok (.iload 5, 2) := by decide +kernel
theorem dX4_seek_65 : decode cX4_seek 65 = .ok (.invokevirtual 25, 3) := by decide +kernel
theorem dX4_seek_68 : decode cX4_seek 68 = .ok (.aload_n 1, 1) := by decide +kernel
theorem dX4_seek_69 : decode cX4_seek 69 = .ok (.invokevirtual 29, 3) := by decide +kernel
theorem dX4_seek_72 : decode cX4_seek 72 = .ok (.ifCond .eq 14, 3) := by decide +kernel
theorem dX4_seek_75 : decode cX4_seek 75 = .ok (.aload_n 1, 1) := by decide +kernel
theorem dX4_seek_76 : decode cX4_seek 76 = .ok (.invokevirtual 21, 3) := by decide +kernel
theorem dX4_seek_79 : decode cX4_seek 79 = .ok (.iconst 1, 1) := by decide +kernel
theorem dX4_seek_80 : decode cX4_seek 80 = .ok (.iadd, 1) := by decide +kernel
theorem dX4_seek_81 : decode cX4_seek 81 = .ok (.istore 5, 2) := by decide +kernel
theorem dX4_seek_83 : decode cX4_seek 83 = .ok (.goto 32, 3) := by decide +kernel
theorem dX4_seek_86 : decode cX4_seek 86 = .ok (.aload_n 0, 1) := by decide +kernel
theorem dX4_seek_87 : decode cX4_seek 87 = .ok (.aload_n 0, 1) := by decide +kernel
theorem dX4_seek_88 : decode cX4_seek 88 = .ok (.getfield 9, 3) := by decide +kernel
theorem dX4_seek_91 : decode cX4_seek 91 = .ok (.aload_n 1, 1) := by decide +kernel
theorem dX4_seek_92 : decode cX4_seek 92 = .ok (.getfield 16, 3) := by decide +kernel
theorem dX4_seek_95 : decode cX4_seek 95 = .ok (.invokestatic 32, 3) := by decide +kernel
theorem dX4_seek_98 : decode cX4_seek 98 = .ok (.putfield 9, 3) := by decide +kernel
theorem dX4_seek_101 : decode cX4_seek 101 = .ok (.aload_n 1, 1) := by decide +kernel
theorem dX4_seek_102 : decode cX4_seek 102 = .ok (.getfield 16, 3) := by decide +kernel
theorem dX4_seek_105 : decode cX4_seek 105 = .ok (.iload_n 2, 1) := by decide +kernel
theorem dX4_seek_106 : decode cX4_seek 106 = .ok (.if_icmp .ne 6, 3) := by decide +kernel
theorem dX4_seek_109 : decode cX4_seek 109 = .ok (.iload 4, 2) := by decide +kernel
theorem dX4_seek_111 : decode cX4_seek 111 = .ok (.ireturn, 1) := by decide +kernel
theorem dX4_seek_112 : decode cX4_seek 112 = .ok (.iconst 0, 1) := by decide +kernel
theorem dX4_seek_113 : decode cX4_seek 113 = .ok (.istore 5, 2) := by decide +kernel
theorem dX4_seek_115 : decode cX4_seek 115 = .ok (.iinc 6 1, 3) := by decide +kernel
theorem dX4_seek_118 : decode cX4_seek 118 = .ok (.goto (-104), 3) := by decide +kernel
theorem dX4_seek_121 : decode cX4_seek 121 = .ok (.bipush (-4), 2) := by decide +kernel
theorem dX4_seek_123 : decode cX4_seek 123 = .ok (.ireturn, 1) := by decide +kernel
set_option maxRecDepth 20000 in
theorem ggX4_countWords_X8_pop : GoodIn wsX4_countWords wsX8_pop := goodIn_r _ [12, 13, 14, 53, 54, 55, 56, 57, 58, 59, 60, 61] rfl (by decide +kernel)
set_option maxRecDepth 20000 in
theorem gX4_countWords_X8_pop : GoodIn wsX4_countWords (wsV RX4 21 RX8 yX8_pop wsX8_pop) := goodIn_app (goodIn_r _ [8, 9, 10, 11] rfl (by decide +kernel)) ggX4_countWords_X8_pop
set_option maxRecDepth 20000 in
theorem ggX4_countWords_X8_push : GoodIn wsX4_countWords wsX8_push := goodIn_r _ [18, 13, 14, 19, 20, 21, 22, 23, 6, 24, 25, 26, 27, 28, 11, 29, 30, 31, 53, 54, 55, 56, 57, 58, 59, 60, 61] rfl (by decide +kernel)
set_option maxRecDepth 20000 in
theorem gX4_countWords_X8_push : GoodIn wsX4_countWords (wsV RX4 25 RX8 yX8_push wsX8_push) := goodIn_app (goodIn_r _ [15, 16, 17, 11] rfl (by decide +kernel)) ggX4_countWords_X8_push
set_option maxRecDepth 20000 in
theorem ggX4_countWords_X8_shortestPowerAtEnd : GoodIn wsX4_countWords wsX8_shortestPowerAtEnd := goodIn_r _ [35, 13, 36, 37, 38, 39, 11, 40, 41, 42, 43, 44, 25, 19, 14, 45, 46, 47, 48, 49, 50, 51, 52, 30, 31, 53, 54, 55, 56, 57, 58, 59, 60, 61] rfl (by decide +kernel)
set_option maxRecDepth 20000 in
theorem gX4_countWords_X8_shortestPowerAtEnd : GoodIn wsX4_countWords (wsV RX4 29 RX8 yX8_shortestPowerAtEnd wsX8_shortestPowerAtEnd) := goodIn_app (goodIn_r _ [32, 33, 34, 11] rfl (by decide +kernel)) ggX4_countWords_X8_shortestPowerAtEnd
theorem dX4_countWords_0 : decode cX4_countWords 0 = .ok (.iload_n 1, 1) := by decide +kernel
theorem dX4_countWords_1 : decode cX4_countWords 1 = .ok (.ifCond .ne 5, 3) := by decide +kernel
theorem dX4_countWords_4 : decode cX4_countWords 4 = .ok (.iconst 1, 1) := by decide +kernel
theorem dX4_countWords_5 : decode cX4_countWords 5 = .ok (.ireturn, 1) := by decide +kernel
theorem dX4_countWords_6 : decode cX4_countWords 6 = .ok (.iconst 0, 1) := by decide +kernel
theorem dX4_countWords_7 : decode cX4_countWords 7 = .ok (.istore 4, 2) := by decide +kernel
theorem dX4_countWords_9 : decode cX4_countWords 9 = .ok (.iconst 0, 1) := by decide +kernel
theorem dX4_countWords_10 : decode cX4_countWords 10 = .ok (.istore 5, 2) := by decide +kernel
theorem dX4_countWords_12 : decode cX4_countWords 12 = .ok (.iconst 0, 1) := by decide +kernel
theorem dX4_countWords_13 : decode cX4_countWords 13 = .ok (.istore 6, 2) := by decide +kernel
theorem dX4_countWords_15 : decode cX4_countWords 15 = .ok (.iload 6, 2) := by decide +kernel
theorem dX4_countWords_17 : decode cX4_countWords 17 = .ok (.ldc 15, 2) := by decide +kernel
theorem dX4_countWords_19 : decode cX4_countWords 19 = .ok (.if_icmp .ge 124, 3) := by decide +kernel
theorem dX4_countWords_22 : decode cX4_countWords 22 = .ok (.iload_n 3, 1) := by decide +kernel
theorem dX4_countWords_23 : decode cX4_countWords 23 = .ok (.ifCond .eq 21, 3) := by decide +kernel
theorem dX4_countWords_26 : decode cX4_countWords 26 = .ok (.iload_n 2, 1) := by decide +kernel
theorem dX4_countWords_27 : decode cX4_countWords 27 = .ok (.aload_n 0, 1) := by decide +kernel
theorem dX4_countWords_28 : decode cX4_countWords 28 = .ok (.getfield 38, 3) := by decide +kernel
theorem dX4_countWords_31 : decode cX4_countWords 31 = .ok (.aload_n 0, 1) := by decide +kernel
theorem dX4_countWords_32 : decode cX4_countWords 32 = .ok (.getfield 16, 3) := by decide +kernel
theorem dX4_countWords_35 : decode cX4_countWords 35 = .ok (.iaload, 1) := by decide +kernel
theorem dX4_countWords_36 : decode cX4_countWords 36 = .ok (.iconst 1, 1) := by decide +kernel
theorem dX4_countWords_37 : decode cX4_countWords 37 = .ok (.iadd, 1) := by decide +kernel
theorem dX4_countWords_38 : decode cX4_countWords 38 = .ok (.invokestatic 42, 3) := by decide +kernel
theorem dX4_countWords_41 : decode cX4_countWords 41 = .ok (.goto 4, 3) := by decide +kernel
theorem dX4_countWords_44 : decode cX4_countWords 44 = .ok (.iload_n 2, 1) := by decide +kernel
theorem dX4_countWords_45 : decode cX4_countWords 45 = .ok (.istore 7, 2) := by decide +kernel
theorem dX4_countWords_47 : decode cX4_countWords 47 = .ok (.iload 5, 2) := by decide +kernel
theorem dX4_countWords_49 : decode cX4_countWords 49 = .ok (.iload 7, 2) := by decide +kernel
theorem dX4_countWords_51 : decode cX4_countWords 51 = .ok (.if_icmp .lt 24, 3) := by decide +kernel
theorem dX4_countWords_54 : decode cX4_countWords 54 = .ok (.aload_n 0, 1) := by decide +kernel
theorem dX4_countWords_55 : decode cX4_countWords 55 = .ok (.getfield 16, 3) := by decide +kernel
theorem dX4_countWords_58 : decode cX4_countWords 58 = .ok (.ifCond .ne 6, 3) := by decide +kernel
theorem dX4_countWords_61 : decode cX4_countWords 61 = .ok (.iload 4, 2) := by decide +kernel
theorem dX4_countWords_63 : decode cX4_countWords 63 = .ok (.ireturn, 1) := by decide +kernel
theorem dX4_countWords_64 : decode cX4_countWords 64 = .ok (.aload_n 0, 1) := by decide +kernel
theorem dX4_countWords_65 : decode cX4_countWords 65 = .ok (.invokevirtual 21, 3) := by decide +kernel
theorem dX4_countWords_68 : decode cX4_countWords 68 = .ok (.iconst 1, 1) := by decide +kernel
theorem dX4_countWords_69 : decode cX4_countWords 69 = .ok (.iadd, 1) := by decide +kernel
theorem dX4_countWords_70 : decode cX4_countWords 70 = .ok (.istore 5, 2) := by decide +kernel
theorem dX4_countWords_72 : decode cX4_countWords 72 = .ok (.goto 65, 3) := by decide +kernel
theorem dX4_countWords_75 : decode cX4_countWords 75 = .ok (.aload_n 0, 1) := by decide +kernel
theorem dX4_countWords_76 : decode cX4_countWords 76 = .ok (.iload 5, 2) := by decide +kernel
theorem dX4_countWords_78 : decode cX4_countWords 78 = .ok (.invokevirtual 25, 3) := by decide +kernel
theorem dX4_countWords_81 : decode cX4_countWords 81 = .ok (.aload_n 0, 1) := by decide +kernel
theorem dX4_countWords_82 : decode cX4_countWords 82 = .ok (.invokevirtual 29, 3) := by decide +kernel
theorem dX4_countWords_85 : decode cX4_countWords 85 = .ok (.ifCond .ne 7, 3) := by decide +kernel
theorem dX4_countWords_88 : decode cX4_countWords 88 = .ok (.iconst 1, 1) := by decide +kernel
theorem dX4_countWords_89 : decode cX4_countWords 89 = .ok (.goto 4, 3) := by decide +kernel
theorem dX4_countWords_92 : decode cX4_countWords 92 = .ok (.iconst 0, 1) := by decide +kernel
theorem dX4_countWords_93 : decode cX4_countWords 93 = .ok (.istore 8, 2) := by decide +kernel
theorem dX4_countWords_95 : decode cX4_countWords 95 = .ok (.iload 8, 2) := by decide +kernel
theorem dX4_countWords_97 : decode cX4_countWords 97 = .ok (.ifCond .eq 17, 3) := by decide +kernel
theorem dX4_countWords_100 : decode cX4_countWords 100 = .ok (.aload_n 0, 1) := by decide +kernel
theorem dX4_countWords_101 : decode cX4_countWords 101 = .ok (.getfield 16, 3) := by decide +kernel
theorem dX4_countWords_104 : decode cX4_countWords 104 = .ok (.iload_n 1, 1) := by decide +kernel
theorem dX4_countWords_105 : decode cX4_countWords 105 = .ok (.if_icmp .ge 9, 3) := by decide +kernel
theorem dX4_countWords_108 : decode cX4_countWords 108 = .ok (.iconst 0, 1) := by decide +kernel
theorem dX4_countWords_109 : decode cX4_countWords 109 = .ok (.istore 5, 2) := by decide +kernel
theorem dX4_countWords_111 : decode cX4_countWords 111 = .ok (.goto 26, 3) := by decide +kernel
theorem dX4_countWords_114 : decode cX4_countWords 114 = .ok (.iload 4, 2) := by decide +kernel
theorem dX4_countWords_116 : decode cX4_countWords 116 = .ok (.iload 8, 2) := by decide +kernel
theorem dX4_countWords_118 : decode cX4_countWords 118 = .ok (.ifCond .eq 7, 3) := by decide +kernel
theorem dX4_countWords_121 : decode cX4_countWords 121 = .ok (.iconst 1, 1) := by decide +kernel
theorem dX4_countWords_122 : decode cX4_countWords 122 = .ok (.goto 4, 3) := by decide +kernel
theorem dX4_countWords_125 : decode cX4_countWords 125 = .ok (.iconst 0, 1) := by decide +kernel
theorem dX4_countWords_126 : decode cX4_countWords 126 = .ok (.iadd, 1) := by decide +kernel
theorem dX4_countWords_127 : decode cX4_countWords 127 = .ok (.istore 4, 2) := by decide +kernel
theorem dX4_countWords_129 : decode cX4_countWords 129 = .ok (.aload_n 0, 1) := by decide +kernel
theorem dX4_countWords_130 : decode cX4_countWords 130 = .ok (.invokevirtual 21, 3) := by decide +kernel
theorem dX4_countWords_133 : decode cX4_countWords 133 = .ok (.iconst 1, 1) := by decide +kernel
theorem dX4_countWords_134 : decode cX4_countWords 134 = .ok (.iadd, 1) := by decide +kernel
theorem dX4_countWords_135 : decode cX4_countWords 135 = .ok (.istore 5, 2) := by decide +kernel
theorem dX4_countWords_137 : decode cX4_countWords 137 = .ok (.iinc 6 1, 3) := by decide +kernel
theorem dX4_countWords_140 : decode cX4_countWords 140 = .ok (.goto (-125), 3) := by decide +kernel
theorem dX4_countWords_143 : decode cX4_countWords 143 = .ok (.iload 4, 2) := by decide +kernel
theorem dX4_countWords_145 : decode cX4_countWords 145 = .ok (.ireturn, 1) := by decide +kernel
set_option maxRecDepth 20000 in
theorem ggX5_init_X9_init : GoodIn wsX5_init wsX9_init := goodIn_r _ [15, 16, 2, 3, 17, 18, 19, 20, 6, 21, 35, 36] rfl (by decide +kernel)
set_option maxRecDepth 20000 in
theorem gX5_init_X9_init : GoodIn wsX5_init (wsX9_init) := ggX5_init_X9_init
set_option maxRecDepth 20000 in
theorem ggX5_init_X5_startOver : GoodIn wsX5_init wsX5_startOver := goodIn_r _ [26, 27, 9, 28, 10, 7, 29, 30, 31, 32, 33, 34, 35, 36] rfl (by decide +kernel)
set_option maxRecDepth 20000 in
theorem gX5_init_X5_startOver : GoodIn wsX5_init (wsV RX5 34 RX5 yX5_startOver wsX5_startOver) := goodIn_app (goodIn_r _ [22, 23, 24, 25] rfl (by decide +kernel)) ggX5_init_X5_startOver
theorem dX5_init_0 : decode cX5_init 0 = .ok (.aload_n 0, 1) := by decide +kernel
theorem dX5_init_1 : decode cX5_init 1 = .ok (.invokespecial 3, 3) := by decide +kernel
theorem dX5_init_4 : decode cX5_init 4 = .ok (.aload_n 0, 1) := by decide +kernel
theorem dX5_init_5 : decode cX5_init 5 = .ok (.iconst 1, 1) := by decide +kernel
theorem dX5_init_6 : decode cX5_init 6 = .ok (.putfield 9, 3) := by decide +kernel
theorem dX5_init_9 : decode cX5_init 9 = .ok (.aload_n 0, 1) := by decide +kernel
theorem dX5_init_10 : decode cX5_init 10 = .ok (.iconst 2, 1) := by decide +kernel
theorem dX5_init_11 : decode cX5_init 11 = .ok (.putfield 15, 3) := by decide +kernel
theorem dX5_init_14 : decode cX5_init 14 = .ok (.aload_n 0, 1) := by decide +kernel
theorem dX5_init_15 : decode cX5_init 15 = .ok (.iconst 4, 1) := by decide +kernel
theorem dX5_init_16 : decode cX5_init 16 = .ok (.newarray .int, 2) := by decide +kernel
theorem dX5_init_18 : decode cX5_init 18 = .ok (.putfield 18, 3) := by decide +kernel
theorem dX5_init_21 : decode cX5_init 21 = .ok (.aload_n 0, 1) := by decide +kernel
theorem dX5_init_22 : decode cX5_init 22 = .ok (.iconst 3, 1) := by decide +kernel
theorem dX5_init_23 : decode cX5_init 23 = .ok (.anewarray 22, 3) := by decide +kernel
theorem dX5_init_26 : decode cX5_init 26 = .ok (.putfield 24, 3) := by decide +kernel
theorem dX5_init_29 : decode cX5_init 29 = .ok (.aload_n 0, 1) := by decide +kernel
theorem dX5_init_30 : decode cX5_init 30 = .ok (.iconst 4, 1) := by decide +kernel
theorem dX5_init_31 : decode cX5_init 31 = .ok (.anewarray 22, 3) := by decide +kernel
theorem dX5_init_34 : decode cX5_init 34 = .ok (.putfield 28, 3) := by decide +kernel
theorem dX5_init_37 : decode cX5_init 37 = .ok (.iconst 0, 1) := by decide +kernel
theorem dX5_init_38 : decode cX5_init 38 = .ok (.istore_n 1, 1) := by decide +kernel
theorem dX5_init_39 : decode cX5_init 39 = .ok (.iload_n 1, 1) := by decide +kernel
theorem dX5_init_40 : decode cX5_init 40 = .ok (.iconst 3, 1) := by decide +kernel
theorem dX5_init_41 : decode cX5_init 41 = .ok (.if_icmp .ge 24, 3) := by decide +kernel
theorem dX5_init_44 : decode cX5_init 44 = .ok (.aload_n 0, 1) := by decide +kernel
theorem dX5_init_45 : decode cX5_init 45 = .ok (.getfield 24, 3) := by decide +kernel
theorem dX5_init_48 : decode cX5_init 48 = .ok (.iload_n 1, 1) := by decide +kernel
theorem dX5_init_49 : decode cX5_init 49 = .ok (.new 22, 3) := by decide +kernel
theorem dX5_init_52 : decode cX5_init 52 = .ok (.dup, 1) := by decide +kernel
theorem dX5_init_53 : decode cX5_init 53 = .ok (.bipush 40, 2) := by decide +kernel
theorem dX5_init_55 : decode cX5_init 55 = .ok (.invokespecial 31, 3) := by decide +kernel
theorem dX5_init_58 : decode cX5_init 58 = .ok (.aastore, 1) := by decide +kernel
theorem dX5_init_59 : decode cX5_init 59 = .ok (.iinc 1 1, 3) := by decide +kernel
theorem dX5_init_62 : decode cX5_init 62 = .ok (.goto (-23), 3) := by decide +kernel
theorem dX5_init_65 : decode cX5_init 65 = .ok (.iconst 0, 1) := by decide +kernel
theorem dX5_init_66 : decode cX5_init 66 = .ok (.istore_n 1, 1) := by decide +kernel
theorem dX5_init_67 : decode cX5_init 67 = .ok (.iload_n 1, 1) := by decide +kernel
theorem dX5_init_68 : decode cX5_init 68 = .ok (.iconst 4, 1) := by decide +kernel
theorem dX5_init_69 : decode cX5_init 69 = .ok (.if_icmp .ge 23, 3) := by decide +kernel
theorem dX5_init_72 : decode cX5_init 72 = .ok (.aload_n 0, 1) := by decide +kernel
theorem dX5_init_73 : decode cX5_init 73 = .ok (.getfield 28, 3) := by decide +kernel
theorem dX5_init_76 : decode cX5_init 76 = .ok (.iload_n 1, 1) := by decide +kernel
theorem dX5_init_77 : decode cX5_init 77 = .ok (.new 22, 3) := by decide +kernel
theorem dX5_init_80 : decode cX5_init 80 = .ok (.dup, 1) := by decide +kernel
theorem dX5_init_81 : decode cX5_init 81 = .ok (.iconst 4, 1) := by decide +kernel
theorem dX5_init_82 : decode cX5_init 82 = .ok (.invokespecial 31, 3) := by decide +kernel
theorem dX5_init_85 : decode cX5_init 85 = .ok (.aastore, 1) := by decide +kernel
theorem dX5_init_86 : decode cX5_init 86 = .ok (.iinc 1 1, 3) := by decide +kernel
theorem dX5_init_89 : decode cX5_init 89 = .ok (.goto (-22), 3) := by decide +kernel
theorem dX5_init_92 : decode cX5_init 92 = .ok (.aload_n 0, 1) := by decide +kernel
theorem dX5_init_93 : decode cX5_init 93 = .ok (.iconst 3, 1) := by decide +kernel
theorem dX5_init_94 : decode cX5_init 94 = .ok (.invokevirtual 34, 3) := by decide +kernel
theorem dX5_init_97 : decode cX5_init 97 = .ok (.return_, 1) := by decide +kernel
theorem dX5_startOver_0 : decode cX5_startOver 0 = .ok (.aload_n 0, 1) := by decide +kernel
theorem dX5_startOver_1 : decode cX5_startOver 1 = .ok (.iload_n 1, 1) := by decide +kernel
theorem dX5_startOver_2 : decode cX5_startOver 2 = .ok (.putfield 37, 3) := by decide +kernel
theorem dX5_startOver_5 : decode cX5_startOver 5 = .ok (.iconst 0, 1) := by decide +kernel
theorem dX5_startOver_6 : decode cX5_startOver 6 = .ok (.istore_n 2, 1) := by decide +kernel
theorem dX5_startOver_7 : decode cX5_startOver 7 = .ok (.iload_n 2, 1) := by decide +kernel
theorem dX5_startOver_8 : decode cX5_startOver 8 = .ok (.iconst 3, 1) := by decide +kernel
theorem dX5_startOver_9 : decode cX5_startOver 9 = .ok (.if_icmp .ge 19, 3) := by decide +kernel
theorem dX5_startOver_12 : decode cX5_startOver 12 = .ok (.aload_n 0, 1) := by decide +kernel
theorem dX5_startOver_13 : decode cX5_startOver 13 = .ok (.getfield 24, 3) := by decide +kernel
theorem dX5_startOver_16 : decode cX5_startOver 16 = .ok (.iload_n 2, 1) := by decide +kernel
theorem dX5_startOver_17 : decode cX5_startOver 17 = .ok (.aaload, 1) := by decide +kernel
theorem dX5_startOver_18 : decode cX5_startOver 18 = .ok (.iconst 0, 1) := by decide +kernel
theorem dX5_startOver_19 : decode cX5_startOver 19 = .ok (.putfield 40, 3) := by decide +kernel
theorem dX5_startOver_22 : decode cX5_startOver 22 = .ok (.iinc 2 1, 3) := by decide +kernel
theorem dX5_startOver_25 : decode cX5_startOver 25 = .ok (.goto (-18), 3) := by decide +kernel
theorem dX5_startOver_28 : decode cX5_startOver 28 = .ok (.iconst 0, 1) := by decide +kernel
theorem dX5_startOver_29 : decode cX5_startOver 29 = .ok (.istore_n 2, 1) := by decide +kernel
theorem dX5_startOver_30 : decode cX5_startOver 30 = .ok (.iload_n 2, 1) := by decide +kernel
theorem dX5_startOver_31 : decode cX5_startOver 31 = .ok (.iconst 4, 1) := by decide +kernel
theorem dX5_startOver_32 : decode cX5_startOver 32 = .ok (.if_icmp .ge 26, 3) := by decide +kernel
theorem dX5_startOver_35 : decode cX5_startOver 35 = .ok (.aload_n 0, 1) := by decide +kernel
theorem dX5_startOver_36 : decode cX5_startOver 36 = .ok (.getfield 28, 3) := by decide +kernel
theorem dX5_startOver_39 : decode cX5_startOver 39 = .ok (.iload_n 2, 1) := by decide +kernel
theorem dX5_startOver_40 : decode cX5_startOver 40 = .ok (.aaload, 1) := by decide +kernel
theorem dX5_startOver_41 : decode cX5_startOver 41 = .ok (.iconst 0, 1) := by decide +kernel
theorem dX5_startOver_42 : decode cX5_startOver 42 = .ok (.putfield 40, 3) := by decide +kernel
theorem dX5_startOver_45 : decode cX5_startOver 45 = .ok (.aload_n 0, 1) := by decide +kernel
theorem dX5_startOver_46 : decode cX5_startOver 46 = .ok (.getfield 18, 3) := by decide +kernel
theorem dX5_startOver_49 : decode cX5_startOver 49 = .ok (.iload_n 2, 1) := by decide +kernel
theorem dX5_startOver_50 : decode cX5_startOver 50 = .ok (.iload_n 2, 1) := by decide +kernel
theorem dX5_startOver_51 : decode cX5_startOver 51 = .ok (.iastore, 1) := by decide +kernel
theorem dX5_startOver_52 : decode cX5_startOver 52 = .ok (.iinc 2 1, 3) := by decide +kernel
theorem dX5_startOver_55 : decode cX5_startOver 55 = .ok (.goto (-25), 3) := by decide +kernel
theorem dX5_startOver_58 : decode cX5_startOver 58 = .ok (.return_, 1) := by decide +kernel
set_option maxRecDepth 20000 in
theorem ggX5_copyFrom_X9_copyFrom : GoodIn wsX5_copyFrom wsX9_copyFrom := goodIn_r _ [11, 12, 13, 14, 15, 10, 16, 17, 18, 19, 20, 21, 28, 29] rfl (by decide +kernel)
set_option maxRecDepth 20000 in
theorem gX5_copyFrom_X9_copyFrom : GoodIn wsX5_copyFrom (wsV RX5 43 RX9 yX9_copyFrom wsX9_copyFrom) := goodIn_app (goodIn_r _ [7, 8, 9, 10] rfl (by decide +kernel)) ggX5_copyFrom_X9_copyFrom
theorem dX5_copyFrom_0 : decode cX5_copyFrom 0 = .ok (.aload_n 0, 1) := by decide +kernel
theorem dX5_copyFrom_1 : decode cX5_copyFrom 1 = .ok (.aload_n 1, 1) := by decide +kernel
theorem dX5_copyFrom_2 : decode cX5_copyFrom 2 = .ok (.getfield 9, 3) := by decide +kernel
theorem dX5_copyFrom_5 : decode cX5_copyFrom 5 = .ok (.putfield 9, 3) := by decide +kernel
theorem dX5_copyFrom_8 : decode cX5_copyFrom 8 = .ok (.aload_n 0, 1) := by decide +kernel
theorem dX5_copyFrom_9 : decode cX5_copyFrom 9 = .ok (.aload_n 1, 1) := by decide +kernel
theorem dX5_copyFrom_10 : decode cX5_copyFrom 10 = .ok (.getfield 15, 3) := by decide +kernel
theorem dX5_copyFrom_13 : decode cX5_copyFrom 13 = .ok (.putfield 15, 3) := by decide +kernel
theorem dX5_copyFrom_16 : decode cX5_copyFrom 16 = .ok (.aload_n 0, 1) := by decide +kernel
theorem dX5_copyFrom_17 : decode cX5_copyFrom 17 = .ok (.aload_n 1, 1) := by decide +kernel
theorem dX5_copyFrom_18 : decode cX5_copyFrom 18 = .ok (.getfield 37, 3) := by decide +kernel
theorem dX5_copyFrom_21 : decode cX5_copyFrom 21 = .ok (.putfield 37, 3) := by decide +kernel
theorem dX5_copyFrom_24 : decode cX5_copyFrom 24 = .ok (.iconst 0, 1) := by decide +kernel
theorem dX5_copyFrom_25 : decode cX5_copyFrom 25 = .ok (.istore_n 2, 1) := by decide +kernel
theorem dX5_copyFrom_26 : decode cX5_copyFrom 26 = .ok (.iload_n 2, 1) := by decide +kernel
theorem dX5_copyFrom_27 : decode cX5_copyFrom 27 = .ok (.iconst 3, 1) := by decide +kernel
theorem dX5_copyFrom_28 : decode cX5_copyFrom 28 = .ok (.if_icmp .ge 24, 3) := by decide +kernel
theorem dX5_copyFrom_31 : decode cX5_copyFrom 31 = .ok (.aload_n 0, 1) := by decide +kernel
theorem dX5_copyFrom_32 : decode cX5_copyFrom 32 = .ok (.getfield 24, 3) := by decide +kernel
theorem dX5_copyFrom_35 : decode cX5_copyFrom 35 = .ok (.iload_n 2, 1) := by decide +kernel
theorem dX5_copyFrom_36 : decode cX5_copyFrom 36 = .ok (.aaload, 1) := by decide +kernel
theorem dX5_copyFrom_37 : decode cX5_copyFrom 37 = .ok (.aload_n 1, 1) := by decide +kernel
theorem dX5_copyFrom_38 : decode cX5_copyFrom 38 = .ok (.getfield 24, 3) := by decide +kernel
theorem dX5_copyFrom_41 : decode cX5_copyFrom 41 = .ok (.iload_n 2, 1) := by decide +kernel
theorem dX5_copyFrom_42 : decode cX5_copyFrom 42 = .ok (.aaload, 1) := by decide +kernel
theorem dX5_copyFrom_43 : decode cX5_copyFrom 43 = .ok (.invokevirtual 43, 3) := by decide +kernel
theorem dX5_copyFrom_46 : decode cX5_copyFrom 46 = .ok (.iinc 2 1, 3) := by decide +kernel
theorem dX5_copyFrom_49 : decode cX5_copyFrom 49 = .ok (.goto (-23), 3) := by decide +kernel
theorem dX5_copyFrom_52 : decode cX5_copyFrom 52 = .ok (.iconst 0, 1) := by decide +kernel
theorem dX5_copyFrom_53 : decode cX5_copyFrom 53 = .ok (.istore_n 2, 1) := by decide +kernel
theorem dX5_copyFrom_54 : decode cX5_copyFrom 54 = .ok (.iload_n 2, 1) := by decide +kernel
theorem dX5_copyFrom_55 : decode cX5_copyFrom 55 = .ok (.iconst 4, 1) := by decide +kernel
theorem dX5_copyFrom_56 : decode cX5_copyFrom 56 = .ok (.if_icmp .ge 36, 3) := by decide +kernel
theorem dX5_copyFrom_59 : decode cX5_copyFrom 59 = .ok (.aload_n 0, 1) := by decide +kernel
theorem dX5_copyFrom_60 : decode cX5_copyFrom 60 = .ok (.getfield 28, 3) := by decide +kernel
theorem dX5_copyFrom_63 : decode cX5_copyFrom 63 = .ok (.iload_n 2, 1) := by decide +kernel
theorem dX5_copyFrom_64 : decode cX5_copyFrom 64 = .ok (.aaload, 1) := by decide +kernel
theorem dX5_copyFrom_65 : decode cX5_copyFrom 65 = .ok (.aload_n 1, 1) := by decide +kernel
theorem dX5_copyFrom_66 : decode cX5_copyFrom 66 = .ok (.getfield 28, 3) := by decide +kernel
theorem dX5_copyFrom_69 : decode cX5_copyFrom 69 = .ok (.iload_n 2, 1) := by decide +kernel
theorem dX5_copyFrom_70 : decode cX5_copyFrom 70 = .ok (.aaload, 1) := by decide +kernel
theorem dX5_copyFrom_71 : decode cX5_copyFrom 71 = .ok (.invokevirtual 43, 3) := by decide +kernel
theorem dX5_copyFrom_74 : decode cX5_copyFrom 74 = .ok (.aload_n 0, 1) := by decide +kernel
theorem dX5_copyFrom_75 : decode cX5_copyFrom 75 = .ok (.getfield 18, 3) := by decide +kernel
theorem dX5_copyFrom_78 : decode cX5_copyFrom 78 = .ok (.iload_n 2, 1) := by decide +kernel
theorem dX5_copyFrom_79 : decode cX5_copyFrom 79 = .ok (.aload_n 1, 1) := by decide +kernel
theorem dX5_copyFrom_80 : decode cX5_copyFrom 80 = .ok (.getfield 18, 3) := by decide +kernel
theorem dX5_copyFrom_83 : decode cX5_copyFrom 83 = .ok (.iload_n 2, 1) := by decide +kernel
theorem dX5_copyFrom_84 : decode cX5_copyFrom 84 = .ok (.iaload, 1) := by decide +kernel
theorem dX5_copyFrom_85 : decode cX5_copyFrom 85 = .ok (.iastore, 1) := by decide +kernel
theorem dX5_copyFrom_86 : decode cX5_copyFrom 86 = .ok (.iinc 2 1, 3) := by decide +kernel
theorem dX5_copyFrom_89 : decode cX5_copyFrom 89 = .ok (.goto (-35), 3) := by decide +kernel
theorem dX5_copyFrom_92 : decode cX5_copyFrom 92 = .ok (.return_, 1) := by decide +kernel
theorem dX5_hasLetter_0 : decode cX5_hasLetter 0 = .ok (.iload_n 1, 1) := by decide +kernel
theorem dX5_hasLetter_1 : decode cX5_hasLetter 1 = .ok (.ifCond .lt 15, 3) := by decide +kernel
theorem dX5_hasLetter_4 : decode cX5_hasLetter 4 = .ok (.iload_n 1, 1) := by decide +kernel
theorem dX5_hasLetter_5 : decode cX5_hasLetter 5 = .ok (.aload_n 0, 1) := by decide +kernel
theorem dX5_hasLetter_6 : decode cX5_hasLetter 6 = .ok (.getfield 37, 3) := by decide +kernel
theorem dX5_hasLetter_9 : decode cX5_hasLetter 9 = .ok (.if_icmp .ge 7, 3) := by decide +kernel
theorem dX5_hasLetter_12 : decode cX5_hasLetter 12 = .ok (.iconst 1, 1) := by decide +kernel
theorem dX5_hasLetter_13 : decode cX5_hasLetter 13 = .ok (.goto 4, 3) := by decide +kernel
theorem dX5_hasLetter_16 : decode cX5_hasLetter 16 = .ok (.iconst 0, 1) := by decide +kernel
theorem dX5_hasLetter_17 : decode cX5_hasLetter 17 = .ok (.ireturn, 1) := by decide +kernel
theorem dX5_lacksImage_0 : decode cX5_lacksImage 0 = .ok (.iconst 0, 1) := by decide +kernel
theorem dX5_lacksImage_1 : decode cX5_lacksImage 1 = .ok (.istore_n 1, 1) := by decide +kernel
theorem dX5_lacksImage_2 : decode cX5_lacksImage 2 = .ok (.iload_n 1, 1) := by decide +kernel
theorem dX5_lacksImage_3 : decode cX5_lacksImage 3 = .ok (.aload_n 0, 1) := by decide +kernel
theorem dX5_lacksImage_4 : decode cX5_lacksImage 4 = .ok (.getfield 37, 3) := by decide +kernel
theorem dX5_lacksImage_7 : decode cX5_lacksImage 7 = .ok (.if_icmp .ge 23, 3) := by decide +kernel
theorem dX5_lacksImage_10 : decode cX5_lacksImage 10 = .ok (.aload_n 0, 1) := by decide +kernel
theorem dX5_lacksImage_11 : decode cX5_lacksImage 11 = .ok (.getfield 28, 3) := by decide +kernel
theorem dX5_lacksImage_14 : decode cX5_lacksImage 14 = .ok (.iload_n 1, 1) := by decide +kernel
theorem dX5_lacksImage_15 : decode cX5_lacksImage 15 = .ok (.aaload, 1) := by decide +kernel
theorem dX5_lacksImage_16 : decode cX5_lacksImage 16 = .ok (.getfield 40, 3) := by decide +kernel
theorem dX5_lacksImage_19 : decode cX5_lacksImage 19 = .ok (.ifCond .ne 5, 3) := by decide +kernel
theorem dX5_lacksImage_22 : decode cX5_lacksImage 22 = .ok (.iconst 1, 1) := by decide +kernel
theorem dX5_lacksImage_23 : decode cX5_lacksImage 23 = .ok (.ireturn, 1) := by decide +kernel
theorem dX5_lacksImage_24 : decode cX5_lacksImage 24 = .ok (.iinc 1 1, 3) := by decide +kernel
theorem dX5_lacksImage_27 : decode cX5_lacksImage 27 = .ok (.goto (-25), 3) := by decide +kernel
theorem dX5_lacksImage_30 : decode cX5_lacksImage 30 = .ok (.iconst 0, 1) := by decide +kernel
theorem dX5_lacksImage_31 : decode cX5_lacksImage 31 = .ok (.ireturn, 1) := by decide +kernel
theorem dX5_lettersOfWords_0 : decode cX5_lettersOfWords 0 = .ok (.iconst 0, 1) := by decide +kernel
theorem dX5_lettersOfWords_1 : decode cX5_lettersOfWords 1 = .ok (.istore_n 1, 1) := by decide +kernel
theorem dX5_lettersOfWords_2 : decode cX5_lettersOfWords 2 = .ok (.iconst 0, 1) := by decide +kernel
theorem dX5_lettersOfWords_3 : decode cX5_lettersOfWords 3 = .ok (.istore_n 2, 1) := by decide +kernel
theorem dX5_lettersOfWords_4 : decode cX5_lettersOfWords 4 = .ok (.iload_n 2, 1) := by decide +kernel
theorem dX5_lettersOfWords_5 : decode cX5_lettersOfWords 5 = .ok (.iconst 3, 1) := by decide +kernel
theorem dX5_lettersOfWords_6 : decode cX5_lettersOfWords 6 = .ok (.if_icmp .ge 21, 3) := by decide +kernel
theorem dX5_lettersOfWords_9 : decode cX5_lettersOfWords 9 = .ok (.iload_n 1, 1) := by decide +kernel
theorem dX5_lettersOfWords_10 : decode cX5_lettersOfWords 10 = .ok (.aload_n 0, 1) := by decide +kernel
theorem dX5_lettersOfWords_11 : decode cX5_lettersOfWords 11 = .ok (.getfield 24, 3) := by decide +kernel
theorem dX5_lettersOfWords_14 : decode cX5_lettersOfWords 14 = .ok (.iload_n 2, 1) := by decide +kernel
theorem dX5_lettersOfWords_15 : decode cX5_lettersOfWords 15 = .ok (.aaload, 1) := by decide +kernel
theorem dX5_lettersOfWords_16 : decode cX5_lettersOfWords 16 = .ok (.getfield 40, 3) := by decide +kernel
theorem dX5_lettersOfWords_19 : decode cX5_lettersOfWords 19 = .ok (.iadd, 1) := by decide +kernel
theorem dX5_lettersOfWords_20 : decode cX5_lettersOfWords 20 = .ok (.istore_n 1, 1) := by decide +kernel
theorem dX5_lettersOfWords_21 : decode cX5_lettersOfWords 21 = .ok (.iinc 2 1, 3) := by decide +kernel
theorem dX5_lettersOfWords_24 : decode cX5_lettersOfWords 24 = .ok (.goto (-20), 3) := by decide +kernel
theorem dX5_lettersOfWords_27 : decode cX5_lettersOfWords 27 = .ok (.iload_n 1, 1) := by decide +kernel
theorem dX5_lettersOfWords_28 : decode cX5_lettersOfWords 28 = .ok (.ireturn, 1) := by decide +kernel
theorem dX6_init_0 : decode cX6_init 0 = .ok (.aload_n 0, 1) := by decide +kernel
theorem dX6_init_1 : decode cX6_init 1 = .ok (.invokespecial 3, 3) := by decide +kernel
theorem dX6_init_4 : decode cX6_init 4 = .ok (.aload_n 0, 1) := by decide +kernel
theorem dX6_init_5 : decode cX6_init 5 = .ok (.bipush 21, 2) := by decide +kernel
theorem dX6_init_7 : decode cX6_init 7 = .ok (.newarray .int, 2) := by decide +kernel
theorem dX6_init_9 : decode cX6_init 9 = .ok (.putfield 11, 3) := by decide +kernel
theorem dX6_init_12 : decode cX6_init 12 = .ok (.aload_n 0, 1) := by decide +kernel
theorem dX6_init_13 : decode cX6_init 13 = .ok (.bipush 84, 2) := by decide +kernel
theorem dX6_init_15 : decode cX6_init 15 = .ok (.newarray .int, 2) := by decide +kernel
theorem dX6_init_17 : decode cX6_init 17 = .ok (.putfield 15, 3) := by decide +kernel
theorem dX6_init_20 : decode cX6_init 20 = .ok (.aload_n 0, 1) := by decide +kernel
theorem dX6_init_21 : decode cX6_init 21 = .ok (.iload_n 1, 1) := by decide +kernel
theorem dX6_init_22 : decode cX6_init 22 = .ok (.putfield 18, 3) := by decide +kernel
theorem dX6_init_25 : decode cX6_init 25 = .ok (.return_, 1) := by decide +kernel
set_option maxRecDepth 20000 in
theorem ggX6_find_X6_put : GoodIn wsX6_find wsX6_put := goodIn_r _ [10, 1, 11, 12, 30, 31, 32, 33] rfl (by decide +kernel)
set_option maxRecDepth 20000 in
theorem gX6_find_X6_put : GoodIn wsX6_find (wsV RX6 25 RX6 yX6_put wsX6_put) := goodIn_app (goodIn_r _ [6, 7, 8, 9] rfl (by decide +kernel)) ggX6_find_X6_put
set_option maxRecDepth 20000 in
theorem ggX6_find_X7_width : GoodIn wsX6_find wsX7_width := goodIn_r _ [16] rfl (by decide +kernel)
set_option maxRecDepth 20000 in
theorem gX6_find_X7_width : GoodIn wsX6_find (va_wsS RX6 38 yX7_width wsX7_width) := goodIn_app (goodIn_r _ [13, 14, 15] rfl (by decide +kernel)) ggX6_find_X7_width
set_option maxRecDepth 20000 in
theorem ggX6_find_X6_prefixSign : GoodIn wsX6_find wsX6_prefixSign := goodIn_r _ [20, 21, 30, 31, 32, 33] rfl (by decide +kernel)
set_option maxRecDepth 20000 in
theorem gX6_find_X6_prefixSign : GoodIn wsX6_find (wsV RX6 49 RX6 yX6_prefixSign wsX6_prefixSign) := goodIn_app (goodIn_r _ [17, 18, 19, 9] rfl (by decide +kernel)) ggX6_find_X6_prefixSign
set_option maxRecDepth 20000 in
theorem ggX6_find_X6_gain : GoodIn wsX6_find wsX6_gain := goodIn_r _ [25, 12, 1, 5, 30, 31, 32, 33, 40, 41] rfl (by decide +kernel)
set_option maxRecDepth 20000 in
theorem gX6_find_X6_gain : GoodIn wsX6_find (wsV RX6 53 RX6 yX6_gain wsX6_gain) := goodIn_app (goodIn_r _ [22, 23, 24, 9] rfl (by decide +kernel)) ggX6_find_X6_gain
set_option maxRecDepth 20000 in
theorem ggX6_find_X6_suffixSign : GoodIn wsX6_find wsX6_suffixSign := goodIn_r _ [29, 21, 30, 31, 32, 33] rfl (by decide +kernel)
set_option maxRecDepth 20000 in
theorem gX6_find_X6_suffixSign : GoodIn wsX6_find (wsV RX6 57 RX6 yX6_suffixSign wsX6_suffixSign) := goodIn_app (goodIn_r _ [26, 27, 28, 9] rfl (by decide +kernel)) ggX6_find_X6_suffixSign
theorem dX6_find_0 : decode cX6_find 0 = .ok (.aload_n 0, 1) := by decide +kernel
theorem dX6_find_1 : decode cX6_find 1 = .ok (.iconst 0, 1) := by decide +kernel
theorem dX6_find_2 : decode cX6_find 2 = .ok (.putfield 22, 3) := by decide +kernel
theorem dX6_find_5 : decode cX6_find 5 = .ok (.iload_n 1, 1) := by decide +kernel
theorem dX6_find_6 : decode cX6_find 6 = .ok (.iconst (-1), 1) := by decide +kernel
theorem dX6_find_7 : decode cX6_find 7 = .ok (.if_icmp .ne 8, 3) := by decide +kernel
theorem dX6_find_10 : decode cX6_find 10 = .ok (.aload_n 0, 1) := by decide +kernel
theorem dX6_find_11 : decode cX6_find 11 = .ok (.iconst (-1), 1) := by decide +kernel
theorem dX6_find_12 : decode cX6_find 12 = .ok (.invokevirtual 25, 3) := by decide +kernel
theorem dX6_find_15 : decode cX6_find 15 = .ok (.iconst 0, 1) := by decide +kernel
theorem dX6_find_16 : decode cX6_find 16 = .ok (.istore 4, 2) := by decide +kernel
theorem dX6_find_18 : decode cX6_find 18 = .ok (.iload 4, 2) := by decide +kernel
theorem dX6_find_20 : decode cX6_find 20 = .ok (.aload_n 2, 1) := by decide +kernel
theorem dX6_find_21 : decode cX6_find 21 = .ok (.getfield 29, 3) := by decide +kernel
theorem dX6_find_24 : decode cX6_find 24 = .ok (.if_icmp .ge 102, 3) := by decide +kernel
theorem dX6_find_27 : decode cX6_find 27 = .ok (.aload_n 2, 1) := by decide +kernel
theorem dX6_find_28 : decode cX6_find 28 = .ok (.getfield 34, 3) := by decide +kernel
theorem dX6_find_31 : decode cX6_find 31 = .ok (.iload 4, 2) := by decide +kernel
theorem dX6_find_33 : decode cX6_find 33 = .ok (.aaload, 1) := by decide +kernel
theorem dX6_find_34 : decode cX6_find 34 = .ok (.astore 5, 2) := by decide +kernel
theorem dX6_find_36 : decode cX6_find 36 = .ok (.iconst 0, 1) := by decide +kernel
theorem dX6_find_37 : decode cX6_find 37 = .ok (.istore 6, 2) := by decide +kernel
theorem dX6_find_39 : decode cX6_find 39 = .ok (.iload 6, 2) := by decide +kernel
theorem dX6_find_41 : decode cX6_find 41 = .ok (.iload_n 1, 1) := by decide +kernel
theorem dX6_find_42 : decode cX6_find 42 = .ok (.invokestatic 38, 3) := by decide +kernel
theorem dX6_find_45 : decode cX6_find 45 = .ok (.iadd, 1) := by decide +kernel
theorem dX6_find_46 : decode cX6_find 46 = .ok (.aload 5, 2) := by decide +kernel
theorem dX6_find_48 : decode cX6_find 48 = .ok (.getfield 44, 3) := by decide +kernel
theorem dX6_find_51 : decode cX6_find 51 = .ok (.if_icmp .gt 69, 3) := by decide +kernel
theorem dX6_find_54 : decode cX6_find 54 = .ok (.iload_n 1, 1) := by decide +kernel
theorem dX6_find_55 : decode cX6_find 55 = .ok (.iconst (-1), 1) := by decide +kernel
theorem dX6_find_56 : decode cX6_find 56 = .ok (.if_icmp .eq 15, 3) := by decide +kernel
theorem dX6_find_59 : decode cX6_find 59 = .ok (.aload 5, 2) := by decide +kernel
theorem dX6_find_61 : decode cX6_find 61 = .ok (.getfield 47, 3) := by decide +kernel
theorem dX6_find_64 : decode cX6_find 64 = .ok (.iload 6, 2) := by decide +kernel
theorem dX6_find_66 : decode cX6_find 66 = .ok (.iaload, 1) := by decide +kernel
theorem dX6_find_67 : decode cX6_find 67 = .ok (.iload_n 1, 1) := by decide +kernel
theorem dX6_find_68 : decode cX6_find 68 = .ok (.if_icmp .ne 46, 3) := by decide +kernel
theorem dX6_find_71 : decode cX6_find 71 = .ok (.aload_n 0, 1) := by decide +kernel
theorem dX6_find_72 : decode cX6_find 72 = .ok (.iload 4, 2) := by decide +kernel
theorem dX6_find_74 : decode cX6_find 74 = .ok (.invokevirtual 25, 3) := by decide +kernel
theorem dX6_find_77 : decode cX6_find 77 = .ok (.aload_n 0, 1) := by decide +kernel
theorem dX6_find_78 : decode cX6_find 78 = .ok (.aload 5, 2) := by decide +kernel
theorem dX6_find_80 : decode cX6_find 80 = .ok (.iconst 0, 1) := by decide +kernel
theorem dX6_find_81 : decode cX6_find 81 = .ok (.iload 6, 2) := by decide +kernel
theorem dX6_find_83 : decode cX6_find 83 = .ok (.aload_n 0, 1) := by decide +kernel
theorem dX6_find_84 : decode cX6_find 84 = .ok (.invokevirtual 49, 3) := by decide +kernel
theorem dX6_find_87 : decode cX6_find 87 = .ok (.aload_n 3, 1) := by decide +kernel
theorem dX6_find_88 : decode cX6_find 88 = .ok (.invokevirtual 53, 3) := by decide +kernel
theorem dX6_find_91 : decode cX6_find 91 = .ok (.aload_n 0, 1) := by decide +kernel
theorem dX6_find_92 : decode cX6_find 92 = .ok (.aload 5, 2) := by decide +kernel
theorem dX6_find_94 : decode cX6_find 94 = .ok (.iload 6, 2) := by decide +kernel
theorem dX6_find_96 : decode cX6_find 96 = .ok (.iload_n 1, 1) := by decide +kernel
theorem dX6_find_97 : decode cX6_find 97 = .ok (.invokestatic 38, 3) := by decide +kernel
theorem dX6_find_100 : decode cX6_find 100 = .ok (.iadd, 1) := by decide +kernel
theorem dX6_find_101 : decode cX6_find 101 = .ok (.aload 5, 2) := by decide +kernel
theorem dX6_find_103 : decode cX6_find 103 = .ok (.getfield 44, 3) := by decide +kernel
theorem dX6_find_106 : decode cX6_find 106 = .ok (.aload_n 0, 1) := by decide +kernel
theorem dX6_find_107 : decode cX6_find 107 = .ok (.invokevirtual 57, 3) := by decide +kernel
theorem dX6_find_110 : decode cX6_find 110 = .ok (.aload_n 3, 1) := by decide +kernel
theorem dX6_find_111 : decode cX6_find 111 = .ok (.invokevirtual 53, 3) := by decide +kernel
theorem dX6_find_114 : decode cX6_find 114 = .ok (.iinc 6 1, 3) := by decide +kernel
theorem dX6_find_117 : decode cX6_find 117 = .ok (.goto (-78), 3) := by decide +kernel
theorem dX6_find_120 : decode cX6_find 120 = .ok (.iinc 4 1, 3) := by decide +kernel
theorem dX6_find_123 : decode cX6_find 123 = .ok (.goto (-105), 3) := by decide +kernel
theorem dX6_find_126 : decode cX6_find 126 = .ok (.return_, 1) := by decide +kernel
theorem dX6_prefixSign_0 : decode cX6_prefixSign 0 = .ok (.aload_n 0, 1) := by decide +kernel
theorem dX6_prefixSign_1 : decode cX6_prefixSign 1 = .ok (.getfield 18, 3) := by decide +kernel
theorem dX6_prefixSign_4 : decode cX6_prefixSign 4 = .ok (.ifCond .ne 7, 3) := by decide +kernel
theorem dX6_prefixSign_7 : decode cX6_prefixSign 7 = .ok (.iconst 0, 1) := by decide +kernel
theorem dX6_prefixSign_8 : decode cX6_prefixSign 8 = .ok (.goto 16, 3) := by decide +kernel
theorem dX6_prefixSign_11 : decode cX6_prefixSign 11 = .ok (.aload_n 0, 1) := by decide +kernel
theorem dX6_prefixSign_12 : decode cX6_prefixSign 12 = .ok (.getfield 18, 3) := by decide +kernel
theorem dX6_prefixSign_15 : decode cX6_prefixSign 15 = .ok (.iconst 1, 1) := by decide +kernel
theorem dX6_prefixSign_16 : decode cX6_prefixSign 16 = .ok (.if_icmp .ne 7, 3) := by decide +kernel
theorem dX6_prefixSign_19 : decode cX6_prefixSign 19 = .ok (.iconst 1, 1) := by decide +kernel
theorem dX6_prefixSign_20 : decode cX6_prefixSign 20 = .ok (.goto 4, 3) := by decide +kernel
theorem dX6_prefixSign_23 : decode cX6_prefixSign 23 = .ok (.iconst (-1), 1) := by decide +kernel
theorem dX6_prefixSign_24 : decode cX6_prefixSign 24 = .ok (.ireturn, 1) := by decide +kernel
theorem dX6_suffixSign_0 : decode cX6_suffixSign 0 = .ok (.aload_n 0, 1) := by decide +kernel
theorem dX6_suffixSign_1 : decode cX6_suffixSign 1 = .ok (.getfield 18, 3) := by decide +kernel
theorem dX6_suffixSign_4 : decode cX6_suffixSign 4 = .ok (.ifCond .ne 7, 3) := by decide +kernel
theorem dX6_suffixSign_7 : decode cX6_suffixSign 7 = .ok (.iconst 1, 1) := by decide +kernel
theorem dX6_suffixSign_8 : decode cX6_suffixSign 8 = .ok (.goto 16, 3) := by decide +kernel
theorem dX6_suffixSign_11 : decode cX6_suffixSign 11 = .ok (.aload_n 0, 1) := by decide +kernel
theorem dX6_suffixSign_12 : decode cX6_suffixSign 12 = .ok (.getfield 18, 3) := by decide +kernel
theorem dX6_suffixSign_15 : decode cX6_suffixSign 15 = .ok (.iconst 1, 1) := by decide +kernel
theorem dX6_suffixSign_16 : decode cX6_suffixSign 16 = .ok (.if_icmp .ne 7, 3) := by decide +kernel
theorem dX6_suffixSign_19 : decode cX6_suffixSign 19 = .ok (.iconst (-1), 1) := by decide +kernel
theorem dX6_suffixSign_20 : decode cX6_suffixSign 20 = .ok (.goto 4, 3) := by decide +kernel
theorem dX6_suffixSign_23 : decode cX6_suffixSign 23 = .ok (.iconst 0, 1) := by decide +kernel
theorem dX6_suffixSign_24 : decode cX6_suffixSign 24 = .ok (.ireturn, 1) := by decide +kernel
theorem dX6_put_0 : decode cX6_put 0 = .ok (.aload_n 0, 1) := by decide +kernel
theorem dX6_put_1 : decode cX6_put 1 = .ok (.getfield 22, 3) := by decide +kernel
theorem dX6_put_4 : decode cX6_put 4 = .ok (.bipush 21, 2) := by decide +kernel
theorem dX6_put_6 : decode cX6_put 6 = .ok (.if_icmp .ge 50, 3) := by decide +kernel
theorem dX6_put_9 : decode cX6_put 9 = .ok (.aload_n 0, 1) := by decide +kernel
theorem dX6_put_10 : decode cX6_put 10 = .ok (.getfield 11, 3) := by decide +kernel
theorem dX6_put_13 : decode cX6_put 13 = .ok (.aload_n 0, 1) := by decide +kernel
theorem dX6_put_14 : decode cX6_put 14 = .ok (.getfield 22, 3) := by decide +kernel
theorem dX6_put_17 : decode cX6_put 17 = .ok (.iload_n 1, 1) := by decide +kernel
theorem dX6_put_18 : decode cX6_put 18 = .ok (.iastore, 1) := by decide +kernel
theorem dX6_put_19 : decode cX6_put 19 = .ok (.iconst 0, 1) := by decide +kernel
theorem dX6_put_20 : decode cX6_put 20 = .ok (.istore_n 2, 1) := by decide +kernel
theorem dX6_put_21 : decode cX6_put 21 = .ok (.iload_n 2, 1) := by decide +kernel
theorem dX6_put_22 : decode cX6_put 22 = .ok (.iconst 4, 1) := by decide +kernel
theorem dX6_put_23 : decode cX6_put 23 = .ok (.if_icmp .ge 23, 3) := by decide +kernel
theorem dX6_put_26 : decode cX6_put 26 = .ok (.aload_n 0, 1) := by decide +kernel
theorem dX6_put_27 : decode cX6_put 27 = .ok (.getfield 15, 3) := by decide +kernel
theorem dX6_put_30 : decode cX6_put 30 = .ok (.iconst 4, 1) := by decide +kernel
theorem dX6_put_31 : decode cX6_put 31 = .ok (.aload_n 0, 1) := by decide +kernel
theorem dX6_put_32 : decode cX6_put 32 = .ok (.getfield 22, 3) := by decide +kernel
theorem dX6_put_35 : decode cX6_put 35 = .ok (.imul, 1) := by decide +kernel
theorem dX6_put_36 : decode cX6_put 36 = .ok (.iload_n 2, 1) := by decide +kernel
theorem dX6_put_37 : decode cX6_put 37 = .ok (.iadd, 1) := by decide +kernel
theorem dX6_put_38 : decode cX6_put 38 = .ok (.iconst 0, 1) := by decide +kernel
theorem dX6_put_39 : decode cX6_put 39 = .ok (.iastore, 1) := by decide +kernel
theorem dX6_put_40 : decode cX6_put 40 = .ok (.iinc 2 1, 3) := by decide +kernel
theorem dX6_put_43 : decode cX6_put 43 = .ok (.goto (-22), 3) := by decide +kernel
