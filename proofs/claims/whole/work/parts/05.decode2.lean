theorem dX6_put_46 : decode cX6_put 46 = .ok (.aload_n 0, 1) := by decide +kernel
theorem dX6_put_47 : decode cX6_put 47 = .ok (.dup, 1) := by decide +kernel
theorem dX6_put_48 : decode cX6_put 48 = .ok (.getfield 22, 3) := by decide +kernel
theorem dX6_put_51 : decode cX6_put 51 = .ok (.iconst 1, 1) := by decide +kernel
theorem dX6_put_52 : decode cX6_put 52 = .ok (.iadd, 1) := by decide +kernel
theorem dX6_put_53 : decode cX6_put 53 = .ok (.putfield 22, 3) := by decide +kernel
theorem dX6_put_56 : decode cX6_put 56 = .ok (.return_, 1) := by decide +kernel
theorem dX6_gain_0 : decode cX6_gain 0 = .ok (.iload_n 2, 1) := by decide +kernel
theorem dX6_gain_1 : decode cX6_gain 1 = .ok (.istore 6, 2) := by decide +kernel
theorem dX6_gain_3 : decode cX6_gain 3 = .ok (.iload 6, 2) := by decide +kernel
theorem dX6_gain_5 : decode cX6_gain 5 = .ok (.iload_n 3, 1) := by decide +kernel
theorem dX6_gain_6 : decode cX6_gain 6 = .ok (.if_icmp .ge 66, 3) := by decide +kernel
theorem dX6_gain_9 : decode cX6_gain 9 = .ok (.iload 4, 2) := by decide +kernel
theorem dX6_gain_11 : decode cX6_gain 11 = .ok (.ifCond .eq 61, 3) := by decide +kernel
theorem dX6_gain_14 : decode cX6_gain 14 = .ok (.iconst 0, 1) := by decide +kernel
theorem dX6_gain_15 : decode cX6_gain 15 = .ok (.istore 7, 2) := by decide +kernel
theorem dX6_gain_17 : decode cX6_gain 17 = .ok (.iload 7, 2) := by decide +kernel
theorem dX6_gain_19 : decode cX6_gain 19 = .ok (.iconst 4, 1) := by decide +kernel
theorem dX6_gain_20 : decode cX6_gain 20 = .ok (.if_icmp .ge 46, 3) := by decide +kernel
theorem dX6_gain_23 : decode cX6_gain 23 = .ok (.aload_n 0, 1) := by decide +kernel
theorem dX6_gain_24 : decode cX6_gain 24 = .ok (.getfield 15, 3) := by decide +kernel
theorem dX6_gain_27 : decode cX6_gain 27 = .ok (.iconst 4, 1) := by decide +kernel
theorem dX6_gain_28 : decode cX6_gain 28 = .ok (.aload_n 0, 1) := by decide +kernel
theorem dX6_gain_29 : decode cX6_gain 29 = .ok (.getfield 22, 3) := by decide +kernel
theorem dX6_gain_32 : decode cX6_gain 32 = .ok (.iconst 1, 1) := by decide +kernel
theorem dX6_gain_33 : decode cX6_gain 33 = .ok (.isub, 1) := by decide +kernel
theorem dX6_gain_34 : decode cX6_gain 34 = .ok (.imul, 1) := by decide +kernel
theorem dX6_gain_35 : decode cX6_gain 35 = .ok (.iload 7, 2) := by decide +kernel
theorem dX6_gain_37 : decode cX6_gain 37 = .ok (.iadd, 1) := by decide +kernel
theorem dX6_gain_38 : decode cX6_gain 38 = .ok (.dup2, 1) := by decide +kernel
theorem dX6_gain_39 : decode cX6_gain 39 = .ok (.iaload, 1) := by decide +kernel
theorem dX6_gain_40 : decode cX6_gain 40 = .ok (.iload 4, 2) := by decide +kernel
theorem dX6_gain_42 : decode cX6_gain 42 = .ok (.aload 5, 2) := by decide +kernel
theorem dX6_gain_44 : decode cX6_gain 44 = .ok (.iconst 4, 1) := by decide +kernel
theorem dX6_gain_45 : decode cX6_gain 45 = .ok (.iload 7, 2) := by decide +kernel
theorem dX6_gain_47 : decode cX6_gain 47 = .ok (.imul, 1) := by decide +kernel
theorem dX6_gain_48 : decode cX6_gain 48 = .ok (.aload_n 1, 1) := by decide +kernel
theorem dX6_gain_49 : decode cX6_gain 49 = .ok (.getfield 47, 3) := by decide +kernel
theorem dX6_gain_52 : decode cX6_gain 52 = .ok (.iload 6, 2) := by decide +kernel
theorem dX6_gain_54 : decode cX6_gain 54 = .ok (.iaload, 1) := by decide +kernel
theorem dX6_gain_55 : decode cX6_gain 55 = .ok (.iadd, 1) := by decide +kernel
theorem dX6_gain_56 : decode cX6_gain 56 = .ok (.iaload, 1) := by decide +kernel
theorem dX6_gain_57 : decode cX6_gain 57 = .ok (.imul, 1) := by decide +kernel
theorem dX6_gain_58 : decode cX6_gain 58 = .ok (.iadd, 1) := by decide +kernel
theorem dX6_gain_59 : decode cX6_gain 59 = .ok (.iastore, 1) := by decide +kernel
theorem dX6_gain_60 : decode cX6_gain 60 = .ok (.iinc 7 1, 3) := by decide +kernel
theorem dX6_gain_63 : decode cX6_gain 63 = .ok (.goto (-46), 3) := by decide +kernel
theorem dX6_gain_66 : decode cX6_gain 66 = .ok (.iinc 6 1, 3) := by decide +kernel
theorem dX6_gain_69 : decode cX6_gain 69 = .ok (.goto (-66), 3) := by decide +kernel
theorem dX6_gain_72 : decode cX6_gain 72 = .ok (.return_, 1) := by decide +kernel
theorem dX7_init_0 : decode cX7_init 0 = .ok (.aload_n 0, 1) := by decide +kernel
theorem dX7_init_1 : decode cX7_init 1 = .ok (.invokespecial 3, 3) := by decide +kernel
theorem dX7_init_4 : decode cX7_init 4 = .ok (.aload_n 0, 1) := by decide +kernel
theorem dX7_init_5 : decode cX7_init 5 = .ok (.iconst 3, 1) := by decide +kernel
theorem dX7_init_6 : decode cX7_init 6 = .ok (.newarray .int, 2) := by decide +kernel
theorem dX7_init_8 : decode cX7_init 8 = .ok (.putfield 9, 3) := by decide +kernel
theorem dX7_init_11 : decode cX7_init 11 = .ok (.aload_n 0, 1) := by decide +kernel
theorem dX7_init_12 : decode cX7_init 12 = .ok (.iconst 4, 1) := by decide +kernel
theorem dX7_init_13 : decode cX7_init 13 = .ok (.newarray .int, 2) := by decide +kernel
theorem dX7_init_15 : decode cX7_init 15 = .ok (.putfield 15, 3) := by decide +kernel
theorem dX7_init_18 : decode cX7_init 18 = .ok (.return_, 1) := by decide +kernel
theorem dX7_keyOfEnds_0 : decode cX7_keyOfEnds 0 = .ok (.iload_n 0, 1) := by decide +kernel
theorem dX7_keyOfEnds_1 : decode cX7_keyOfEnds 1 = .ok (.iconst 1, 1) := by decide +kernel
theorem dX7_keyOfEnds_2 : decode cX7_keyOfEnds 2 = .ok (.iadd, 1) := by decide +kernel
theorem dX7_keyOfEnds_3 : decode cX7_keyOfEnds 3 = .ok (.iconst 5, 1) := by decide +kernel
theorem dX7_keyOfEnds_4 : decode cX7_keyOfEnds 4 = .ok (.imul, 1) := by decide +kernel
theorem dX7_keyOfEnds_5 : decode cX7_keyOfEnds 5 = .ok (.iload_n 1, 1) := by decide +kernel
theorem dX7_keyOfEnds_6 : decode cX7_keyOfEnds 6 = .ok (.iadd, 1) := by decide +kernel
theorem dX7_keyOfEnds_7 : decode cX7_keyOfEnds 7 = .ok (.iconst 1, 1) := by decide +kernel
theorem dX7_keyOfEnds_8 : decode cX7_keyOfEnds 8 = .ok (.iadd, 1) := by decide +kernel
theorem dX7_keyOfEnds_9 : decode cX7_keyOfEnds 9 = .ok (.iconst 5, 1) := by decide +kernel
theorem dX7_keyOfEnds_10 : decode cX7_keyOfEnds 10 = .ok (.imul, 1) := by decide +kernel
theorem dX7_keyOfEnds_11 : decode cX7_keyOfEnds 11 = .ok (.iload_n 2, 1) := by decide +kernel
theorem dX7_keyOfEnds_12 : decode cX7_keyOfEnds 12 = .ok (.iadd, 1) := by decide +kernel
theorem dX7_keyOfEnds_13 : decode cX7_keyOfEnds 13 = .ok (.iconst 1, 1) := by decide +kernel
theorem dX7_keyOfEnds_14 : decode cX7_keyOfEnds 14 = .ok (.iadd, 1) := by decide +kernel
theorem dX7_keyOfEnds_15 : decode cX7_keyOfEnds 15 = .ok (.ireturn, 1) := by decide +kernel
theorem dX7_keyWithNumber_0 : decode cX7_keyWithNumber 0 = .ok (.iload_n 0, 1) := by decide +kernel
theorem dX7_keyWithNumber_1 : decode cX7_keyWithNumber 1 = .ok (.bipush 19, 2) := by decide +kernel
theorem dX7_keyWithNumber_3 : decode cX7_keyWithNumber 3 = .ok (.imul, 1) := by decide +kernel
theorem dX7_keyWithNumber_4 : decode cX7_keyWithNumber 4 = .ok (.iload_n 1, 1) := by decide +kernel
theorem dX7_keyWithNumber_5 : decode cX7_keyWithNumber 5 = .ok (.iadd, 1) := by decide +kernel
theorem dX7_keyWithNumber_6 : decode cX7_keyWithNumber 6 = .ok (.bipush 9, 2) := by decide +kernel
theorem dX7_keyWithNumber_8 : decode cX7_keyWithNumber 8 = .ok (.iadd, 1) := by decide +kernel
theorem dX7_keyWithNumber_9 : decode cX7_keyWithNumber 9 = .ok (.ireturn, 1) := by decide +kernel
set_option maxRecDepth 20000 in
theorem ggX7_squareKey_X7_keyOfEnds : GoodIn wsX7_squareKey wsX7_keyOfEnds := goodIn_r _ [4] rfl (by decide +kernel)
set_option maxRecDepth 20000 in
theorem gX7_squareKey_X7_keyOfEnds : GoodIn wsX7_squareKey (va_wsS RX7 18 yX7_keyOfEnds wsX7_keyOfEnds) := goodIn_app (goodIn_r _ [1, 2, 3] rfl (by decide +kernel)) ggX7_squareKey_X7_keyOfEnds
set_option maxRecDepth 20000 in
theorem ggX7_squareKey_X7_keyWithNumber : GoodIn wsX7_squareKey wsX7_keyWithNumber := goodIn_r _ [7] rfl (by decide +kernel)
set_option maxRecDepth 20000 in
theorem gX7_squareKey_X7_keyWithNumber : GoodIn wsX7_squareKey (va_wsS RX7 22 yX7_keyWithNumber wsX7_keyWithNumber) := goodIn_app (goodIn_r _ [5, 6, 3] rfl (by decide +kernel)) ggX7_squareKey_X7_keyWithNumber
theorem dX7_squareKey_0 : decode cX7_squareKey 0 = .ok (.iconst (-1), 1) := by decide +kernel
theorem dX7_squareKey_1 : decode cX7_squareKey 1 = .ok (.iconst (-1), 1) := by decide +kernel
theorem dX7_squareKey_2 : decode cX7_squareKey 2 = .ok (.iconst (-1), 1) := by decide +kernel
theorem dX7_squareKey_3 : decode cX7_squareKey 3 = .ok (.invokestatic 18, 3) := by decide +kernel
theorem dX7_squareKey_6 : decode cX7_squareKey 6 = .ok (.istore_n 1, 1) := by decide +kernel
theorem dX7_squareKey_7 : decode cX7_squareKey 7 = .ok (.iconst 0, 1) := by decide +kernel
theorem dX7_squareKey_8 : decode cX7_squareKey 8 = .ok (.istore_n 2, 1) := by decide +kernel
theorem dX7_squareKey_9 : decode cX7_squareKey 9 = .ok (.iload_n 2, 1) := by decide +kernel
theorem dX7_squareKey_10 : decode cX7_squareKey 10 = .ok (.iload_n 0, 1) := by decide +kernel
theorem dX7_squareKey_11 : decode cX7_squareKey 11 = .ok (.if_icmp .ge 15, 3) := by decide +kernel
theorem dX7_squareKey_14 : decode cX7_squareKey 14 = .ok (.iload_n 1, 1) := by decide +kernel
theorem dX7_squareKey_15 : decode cX7_squareKey 15 = .ok (.iconst 0, 1) := by decide +kernel
theorem dX7_squareKey_16 : decode cX7_squareKey 16 = .ok (.invokestatic 22, 3) := by decide +kernel
theorem dX7_squareKey_19 : decode cX7_squareKey 19 = .ok (.istore_n 1, 1) := by decide +kernel
theorem dX7_squareKey_20 : decode cX7_squareKey 20 = .ok (.iinc 2 1, 3) := by decide +kernel
theorem dX7_squareKey_23 : decode cX7_squareKey 23 = .ok (.goto (-14), 3) := by decide +kernel
theorem dX7_squareKey_26 : decode cX7_squareKey 26 = .ok (.iload_n 1, 1) := by decide +kernel
theorem dX7_squareKey_27 : decode cX7_squareKey 27 = .ok (.ireturn, 1) := by decide +kernel
theorem dX7_readKey_0 : decode cX7_readKey 0 = .ok (.iload_n 1, 1) := by decide +kernel
theorem dX7_readKey_1 : decode cX7_readKey 1 = .ok (.istore_n 3, 1) := by decide +kernel
theorem dX7_readKey_2 : decode cX7_readKey 2 = .ok (.iconst 3, 1) := by decide +kernel
theorem dX7_readKey_3 : decode cX7_readKey 3 = .ok (.istore 4, 2) := by decide +kernel
theorem dX7_readKey_5 : decode cX7_readKey 5 = .ok (.iload 4, 2) := by decide +kernel
theorem dX7_readKey_7 : decode cX7_readKey 7 = .ok (.ifCond .lt 42, 3) := by decide +kernel
theorem dX7_readKey_10 : decode cX7_readKey 10 = .ok (.aload_n 0, 1) := by decide +kernel
theorem dX7_readKey_11 : decode cX7_readKey 11 = .ok (.getfield 15, 3) := by decide +kernel
theorem dX7_readKey_14 : decode cX7_readKey 14 = .ok (.iload 4, 2) := by decide +kernel
theorem dX7_readKey_16 : decode cX7_readKey 16 = .ok (.iconst 0, 1) := by decide +kernel
theorem dX7_readKey_17 : decode cX7_readKey 17 = .ok (.iastore, 1) := by decide +kernel
theorem dX7_readKey_18 : decode cX7_readKey 18 = .ok (.iload 4, 2) := by decide +kernel
theorem dX7_readKey_20 : decode cX7_readKey 20 = .ok (.iload_n 2, 1) := by decide +kernel
theorem dX7_readKey_21 : decode cX7_readKey 21 = .ok (.if_icmp .ge 22, 3) := by decide +kernel
theorem dX7_readKey_24 : decode cX7_readKey 24 = .ok (.aload_n 0, 1) := by decide +kernel
theorem dX7_readKey_25 : decode cX7_readKey 25 = .ok (.getfield 15, 3) := by decide +kernel
theorem dX7_readKey_28 : decode cX7_readKey 28 = .ok (.iload 4, 2) := by decide +kernel
theorem dX7_readKey_30 : decode cX7_readKey 30 = .ok (.iload_n 3, 1) := by decide +kernel
theorem dX7_readKey_31 : decode cX7_readKey 31 = .ok (.bipush 19, 2) := by decide +kernel
theorem dX7_readKey_33 : decode cX7_readKey 33 = .ok (.irem, 1) := by decide +kernel
theorem dX7_readKey_34 : decode cX7_readKey 34 = .ok (.bipush 9, 2) := by decide +kernel
theorem dX7_readKey_36 : decode cX7_readKey 36 = .ok (.isub, 1) := by decide +kernel
theorem dX7_readKey_37 : decode cX7_readKey 37 = .ok (.iastore, 1) := by decide +kernel
theorem dX7_readKey_38 : decode cX7_readKey 38 = .ok (.iload_n 3, 1) := by decide +kernel
theorem dX7_readKey_39 : decode cX7_readKey 39 = .ok (.bipush 19, 2) := by decide +kernel
theorem dX7_readKey_41 : decode cX7_readKey 41 = .ok (.idiv, 1) := by decide +kernel
theorem dX7_readKey_42 : decode cX7_readKey 42 = .ok (.istore_n 3, 1) := by decide +kernel
theorem dX7_readKey_43 : decode cX7_readKey 43 = .ok (.iinc 4 (-1), 3) := by decide +kernel
theorem dX7_readKey_46 : decode cX7_readKey 46 = .ok (.goto (-41), 3) := by decide +kernel
theorem dX7_readKey_49 : decode cX7_readKey 49 = .ok (.iconst 2, 1) := by decide +kernel
theorem dX7_readKey_50 : decode cX7_readKey 50 = .ok (.istore 4, 2) := by decide +kernel
theorem dX7_readKey_52 : decode cX7_readKey 52 = .ok (.iload 4, 2) := by decide +kernel
theorem dX7_readKey_54 : decode cX7_readKey 54 = .ok (.ifCond .lt 25, 3) := by decide +kernel
theorem dX7_readKey_57 : decode cX7_readKey 57 = .ok (.aload_n 0, 1) := by decide +kernel
theorem dX7_readKey_58 : decode cX7_readKey 58 = .ok (.getfield 9, 3) := by decide +kernel
theorem dX7_readKey_61 : decode cX7_readKey 61 = .ok (.iload 4, 2) := by decide +kernel
theorem dX7_readKey_63 : decode cX7_readKey 63 = .ok (.iload_n 3, 1) := by decide +kernel
theorem dX7_readKey_64 : decode cX7_readKey 64 = .ok (.iconst 5, 1) := by decide +kernel
theorem dX7_readKey_65 : decode cX7_readKey 65 = .ok (.irem, 1) := by decide +kernel
theorem dX7_readKey_66 : decode cX7_readKey 66 = .ok (.iconst 1, 1) := by decide +kernel
theorem dX7_readKey_67 : decode cX7_readKey 67 = .ok (.isub, 1) := by decide +kernel
theorem dX7_readKey_68 : decode cX7_readKey 68 = .ok (.iastore, 1) := by decide +kernel
theorem dX7_readKey_69 : decode cX7_readKey 69 = .ok (.iload_n 3, 1) := by decide +kernel
theorem dX7_readKey_70 : decode cX7_readKey 70 = .ok (.iconst 5, 1) := by decide +kernel
theorem dX7_readKey_71 : decode cX7_readKey 71 = .ok (.idiv, 1) := by decide +kernel
theorem dX7_readKey_72 : decode cX7_readKey 72 = .ok (.istore_n 3, 1) := by decide +kernel
theorem dX7_readKey_73 : decode cX7_readKey 73 = .ok (.iinc 4 (-1), 3) := by decide +kernel
theorem dX7_readKey_76 : decode cX7_readKey 76 = .ok (.goto (-24), 3) := by decide +kernel
theorem dX7_readKey_79 : decode cX7_readKey 79 = .ok (.return_, 1) := by decide +kernel
theorem dX7_width_0 : decode cX7_width 0 = .ok (.iload_n 0, 1) := by decide +kernel
theorem dX7_width_1 : decode cX7_width 1 = .ok (.iconst (-1), 1) := by decide +kernel
theorem dX7_width_2 : decode cX7_width 2 = .ok (.if_icmp .ne 7, 3) := by decide +kernel
theorem dX7_width_5 : decode cX7_width 5 = .ok (.iconst 0, 1) := by decide +kernel
theorem dX7_width_6 : decode cX7_width 6 = .ok (.goto 4, 3) := by decide +kernel
theorem dX7_width_9 : decode cX7_width 9 = .ok (.iconst 1, 1) := by decide +kernel
theorem dX7_width_10 : decode cX7_width 10 = .ok (.ireturn, 1) := by decide +kernel
theorem dX7_lengthDifference_0 : decode cX7_lengthDifference 0 = .ok (.iconst 0, 1) := by decide +kernel
theorem dX7_lengthDifference_1 : decode cX7_lengthDifference 1 = .ok (.istore_n 1, 1) := by decide +kernel
theorem dX7_lengthDifference_2 : decode cX7_lengthDifference 2 = .ok (.iconst 0, 1) := by decide +kernel
theorem dX7_lengthDifference_3 : decode cX7_lengthDifference 3 = .ok (.istore_n 2, 1) := by decide +kernel
theorem dX7_lengthDifference_4 : decode cX7_lengthDifference 4 = .ok (.iload_n 2, 1) := by decide +kernel
theorem dX7_lengthDifference_5 : decode cX7_lengthDifference 5 = .ok (.iconst 4, 1) := by decide +kernel
theorem dX7_lengthDifference_6 : decode cX7_lengthDifference 6 = .ok (.if_icmp .ge 18, 3) := by decide +kernel
theorem dX7_lengthDifference_9 : decode cX7_lengthDifference 9 = .ok (.iload_n 1, 1) := by decide +kernel
theorem dX7_lengthDifference_10 : decode cX7_lengthDifference 10 = .ok (.aload_n 0, 1) := by decide +kernel
theorem dX7_lengthDifference_11 : decode cX7_lengthDifference 11 = .ok (.getfield 15, 3) := by decide +kernel
theorem dX7_lengthDifference_14 : decode cX7_lengthDifference 14 = .ok (.iload_n 2, 1) := by decide +kernel
theorem dX7_lengthDifference_15 : decode cX7_lengthDifference 15 = .ok (.iaload, 1) := by decide +kernel
theorem dX7_lengthDifference_16 : decode cX7_lengthDifference 16 = .ok (.iadd, 1) := by decide +kernel
theorem dX7_lengthDifference_17 : decode cX7_lengthDifference 17 = .ok (.istore_n 1, 1) := by decide +kernel
theorem dX7_lengthDifference_18 : decode cX7_lengthDifference 18 = .ok (.iinc 2 1, 3) := by decide +kernel
theorem dX7_lengthDifference_21 : decode cX7_lengthDifference 21 = .ok (.goto (-17), 3) := by decide +kernel
theorem dX7_lengthDifference_24 : decode cX7_lengthDifference 24 = .ok (.iload_n 1, 1) := by decide +kernel
theorem dX7_lengthDifference_25 : decode cX7_lengthDifference 25 = .ok (.ireturn, 1) := by decide +kernel
theorem dX8_init_0 : decode cX8_init 0 = .ok (.aload_n 0, 1) := by decide +kernel
theorem dX8_init_1 : decode cX8_init 1 = .ok (.invokespecial 3, 3) := by decide +kernel
theorem dX8_init_4 : decode cX8_init 4 = .ok (.aload_n 0, 1) := by decide +kernel
theorem dX8_init_5 : decode cX8_init 5 = .ok (.bipush 41, 2) := by decide +kernel
theorem dX8_init_7 : decode cX8_init 7 = .ok (.newarray .int, 2) := by decide +kernel
theorem dX8_init_9 : decode cX8_init 9 = .ok (.putfield 9, 3) := by decide +kernel
theorem dX8_init_12 : decode cX8_init 12 = .ok (.aload_n 0, 1) := by decide +kernel
theorem dX8_init_13 : decode cX8_init 13 = .ok (.bipush 42, 2) := by decide +kernel
theorem dX8_init_15 : decode cX8_init 15 = .ok (.newarray .int, 2) := by decide +kernel
theorem dX8_init_17 : decode cX8_init 17 = .ok (.putfield 15, 3) := by decide +kernel
theorem dX8_init_20 : decode cX8_init 20 = .ok (.aload_n 0, 1) := by decide +kernel
theorem dX8_init_21 : decode cX8_init 21 = .ok (.bipush 42, 2) := by decide +kernel
theorem dX8_init_23 : decode cX8_init 23 = .ok (.newarray .long, 2) := by decide +kernel
theorem dX8_init_25 : decode cX8_init 25 = .ok (.putfield 18, 3) := by decide +kernel
theorem dX8_init_28 : decode cX8_init 28 = .ok (.aload_n 0, 1) := by decide +kernel
theorem dX8_init_29 : decode cX8_init 29 = .ok (.bipush 42, 2) := by decide +kernel
theorem dX8_init_31 : decode cX8_init 31 = .ok (.newarray .long, 2) := by decide +kernel
theorem dX8_init_33 : decode cX8_init 33 = .ok (.putfield 22, 3) := by decide +kernel
theorem dX8_init_36 : decode cX8_init 36 = .ok (.aload_n 0, 1) := by decide +kernel
theorem dX8_init_37 : decode cX8_init 37 = .ok (.bipush 42, 2) := by decide +kernel
theorem dX8_init_39 : decode cX8_init 39 = .ok (.newarray .long, 2) := by decide +kernel
theorem dX8_init_41 : decode cX8_init 41 = .ok (.putfield 25, 3) := by decide +kernel
theorem dX8_init_44 : decode cX8_init 44 = .ok (.aload_n 0, 1) := by decide +kernel
theorem dX8_init_45 : decode cX8_init 45 = .ok (.iconst 4, 1) := by decide +kernel
theorem dX8_init_46 : decode cX8_init 46 = .ok (.newarray .long, 2) := by decide +kernel
theorem dX8_init_48 : decode cX8_init 48 = .ok (.putfield 28, 3) := by decide +kernel
theorem dX8_init_51 : decode cX8_init 51 = .ok (.return_, 1) := by decide +kernel
theorem dX8_begin_0 : decode cX8_begin 0 = .ok (.aload_n 0, 1) := by decide +kernel
theorem dX8_begin_1 : decode cX8_begin 1 = .ok (.iconst 0, 1) := by decide +kernel
theorem dX8_begin_2 : decode cX8_begin 2 = .ok (.putfield 31, 3) := by decide +kernel
theorem dX8_begin_5 : decode cX8_begin 5 = .ok (.aload_n 0, 1) := by decide +kernel
theorem dX8_begin_6 : decode cX8_begin 6 = .ok (.iload_n 1, 1) := by decide +kernel
theorem dX8_begin_7 : decode cX8_begin 7 = .ok (.putfield 35, 3) := by decide +kernel
theorem dX8_begin_10 : decode cX8_begin 10 = .ok (.aload_n 0, 1) := by decide +kernel
theorem dX8_begin_11 : decode cX8_begin 11 = .ok (.aload_n 2, 1) := by decide +kernel
theorem dX8_begin_12 : decode cX8_begin 12 = .ok (.getfield 38, 3) := by decide +kernel
theorem dX8_begin_15 : decode cX8_begin 15 = .ok (.putfield 43, 3) := by decide +kernel
theorem dX8_begin_18 : decode cX8_begin 18 = .ok (.iconst 0, 1) := by decide +kernel
theorem dX8_begin_19 : decode cX8_begin 19 = .ok (.istore_n 3, 1) := by decide +kernel
theorem dX8_begin_20 : decode cX8_begin 20 = .ok (.iload_n 3, 1) := by decide +kernel
theorem dX8_begin_21 : decode cX8_begin 21 = .ok (.iconst 4, 1) := by decide +kernel
theorem dX8_begin_22 : decode cX8_begin 22 = .ok (.if_icmp .ge 39, 3) := by decide +kernel
theorem dX8_begin_25 : decode cX8_begin 25 = .ok (.aload_n 0, 1) := by decide +kernel
theorem dX8_begin_26 : decode cX8_begin 26 = .ok (.getfield 28, 3) := by decide +kernel
theorem dX8_begin_29 : decode cX8_begin 29 = .ok (.iload_n 3, 1) := by decide +kernel
theorem dX8_begin_30 : decode cX8_begin 30 = .ok (.aload_n 0, 1) := by decide +kernel
theorem dX8_begin_31 : decode cX8_begin 31 = .ok (.getfield 35, 3) := by decide +kernel
theorem dX8_begin_34 : decode cX8_begin 34 = .ok (.iconst 2, 1) := by decide +kernel
theorem dX8_begin_35 : decode cX8_begin 35 = .ok (.if_icmp .ne 13, 3) := by decide +kernel
theorem dX8_begin_38 : decode cX8_begin 38 = .ok (.aload_n 2, 1) := by decide +kernel
theorem dX8_begin_39 : decode cX8_begin 39 = .ok (.getfield 44, 3) := by decide +kernel
theorem dX8_begin_42 : decode cX8_begin 42 = .ok (.iload_n 3, 1) := by decide +kernel
theorem dX8_begin_43 : decode cX8_begin 43 = .ok (.iaload, 1) := by decide +kernel
theorem dX8_begin_44 : decode cX8_begin 44 = .ok (.i2l, 1) := by decide +kernel
theorem dX8_begin_45 : decode cX8_begin 45 = .ok (.goto 9, 3) := by decide +kernel
theorem dX8_begin_48 : decode cX8_begin 48 = .ok (.lconst 1, 1) := by decide +kernel
theorem dX8_begin_49 : decode cX8_begin 49 = .ok (.bipush 16, 2) := by decide +kernel
theorem dX8_begin_51 : decode cX8_begin 51 = .ok (.iload_n 3, 1) := by decide +kernel
theorem dX8_begin_52 : decode cX8_begin 52 = .ok (.imul, 1) := by decide +kernel
theorem dX8_begin_53 : decode cX8_begin 53 = .ok (.lshl, 1) := by decide +kernel
theorem dX8_begin_54 : decode cX8_begin 54 = .ok (.lastore, 1) := by decide +kernel
theorem dX8_begin_55 : decode cX8_begin 55 = .ok (.iinc 3 1, 3) := by decide +kernel
theorem dX8_begin_58 : decode cX8_begin 58 = .ok (.goto (-38), 3) := by decide +kernel
theorem dX8_begin_61 : decode cX8_begin 61 = .ok (.return_, 1) := by decide +kernel
set_option maxRecDepth 20000 in
theorem ggX8_push_X8_sumPairs : GoodIn wsX8_push wsX8_sumPairs := goodIn_r _ [15, 16, 1, 17, 2, 18, 19, 20, 21, 22, 23, 24, 25, 26] rfl (by decide +kernel)
set_option maxRecDepth 20000 in
theorem gX8_push_X8_sumPairs : GoodIn wsX8_push (wsV RX8 53 RX8 yX8_sumPairs wsX8_sumPairs) := goodIn_app (goodIn_r _ [11, 12, 13, 14] rfl (by decide +kernel)) ggX8_push_X8_sumPairs
theorem dX8_push_0 : decode cX8_push 0 = .ok (.aload_n 0, 1) := by decide +kernel
theorem dX8_push_1 : decode cX8_push 1 = .ok (.getfield 31, 3) := by decide +kernel
theorem dX8_push_4 : decode cX8_push 4 = .ok (.bipush 40, 2) := by decide +kernel
theorem dX8_push_6 : decode cX8_push 6 = .ok (.if_icmp .gt 12, 3) := by decide +kernel
theorem dX8_push_9 : decode cX8_push 9 = .ok (.iload_n 1, 1) := by decide +kernel
theorem dX8_push_10 : decode cX8_push 10 = .ok (.ifCond .lt 8, 3) := by decide +kernel
theorem dX8_push_13 : decode cX8_push 13 = .ok (.iload_n 1, 1) := by decide +kernel
theorem dX8_push_14 : decode cX8_push 14 = .ok (.iconst 4, 1) := by decide +kernel
theorem dX8_push_15 : decode cX8_push 15 = .ok (.if_icmp .lt 4, 3) := by decide +kernel
theorem dX8_push_18 : decode cX8_push 18 = .ok (.return_, 1) := by decide +kernel
theorem dX8_push_19 : decode cX8_push 19 = .ok (.aload_n 0, 1) := by decide +kernel
theorem dX8_push_20 : decode cX8_push 20 = .ok (.getfield 9, 3) := by decide +kernel
theorem dX8_push_23 : decode cX8_push 23 = .ok (.aload_n 0, 1) := by decide +kernel
theorem dX8_push_24 : decode cX8_push 24 = .ok (.getfield 31, 3) := by decide +kernel
theorem dX8_push_27 : decode cX8_push 27 = .ok (.iload_n 1, 1) := by decide +kernel
theorem dX8_push_28 : decode cX8_push 28 = .ok (.iastore, 1) := by decide +kernel
theorem dX8_push_29 : decode cX8_push 29 = .ok (.aload_n 0, 1) := by decide +kernel
theorem dX8_push_30 : decode cX8_push 30 = .ok (.getfield 18, 3) := by decide +kernel
theorem dX8_push_33 : decode cX8_push 33 = .ok (.aload_n 0, 1) := by decide +kernel
theorem dX8_push_34 : decode cX8_push 34 = .ok (.getfield 31, 3) := by decide +kernel
theorem dX8_push_37 : decode cX8_push 37 = .ok (.iconst 1, 1) := by decide +kernel
theorem dX8_push_38 : decode cX8_push 38 = .ok (.iadd, 1) := by decide +kernel
theorem dX8_push_39 : decode cX8_push 39 = .ok (.aload_n 0, 1) := by decide +kernel
theorem dX8_push_40 : decode cX8_push 40 = .ok (.getfield 18, 3) := by decide +kernel
theorem dX8_push_43 : decode cX8_push 43 = .ok (.aload_n 0, 1) := by decide +kernel
theorem dX8_push_44 : decode cX8_push 44 = .ok (.getfield 31, 3) := by decide +kernel
theorem dX8_push_47 : decode cX8_push 47 = .ok (.laload, 1) := by decide +kernel
theorem dX8_push_48 : decode cX8_push 48 = .ok (.aload_n 0, 1) := by decide +kernel
theorem dX8_push_49 : decode cX8_push 49 = .ok (.getfield 28, 3) := by decide +kernel
theorem dX8_push_52 : decode cX8_push 52 = .ok (.iload_n 1, 1) := by decide +kernel
theorem dX8_push_53 : decode cX8_push 53 = .ok (.laload, 1) := by decide +kernel
theorem dX8_push_54 : decode cX8_push 54 = .ok (.ladd, 1) := by decide +kernel
theorem dX8_push_55 : decode cX8_push 55 = .ok (.lastore, 1) := by decide +kernel
theorem dX8_push_56 : decode cX8_push 56 = .ok (.aload_n 0, 1) := by decide +kernel
theorem dX8_push_57 : decode cX8_push 57 = .ok (.getfield 15, 3) := by decide +kernel
theorem dX8_push_60 : decode cX8_push 60 = .ok (.aload_n 0, 1) := by decide +kernel
theorem dX8_push_61 : decode cX8_push 61 = .ok (.getfield 31, 3) := by decide +kernel
theorem dX8_push_64 : decode cX8_push 64 = .ok (.iconst 1, 1) := by decide +kernel
theorem dX8_push_65 : decode cX8_push 65 = .ok (.iadd, 1) := by decide +kernel
theorem dX8_push_66 : decode cX8_push 66 = .ok (.aload_n 0, 1) := by decide +kernel
theorem dX8_push_67 : decode cX8_push 67 = .ok (.getfield 15, 3) := by decide +kernel
theorem dX8_push_70 : decode cX8_push 70 = .ok (.aload_n 0, 1) := by decide +kernel
theorem dX8_push_71 : decode cX8_push 71 = .ok (.getfield 31, 3) := by decide +kernel
theorem dX8_push_74 : decode cX8_push 74 = .ok (.iaload, 1) := by decide +kernel
theorem dX8_push_75 : decode cX8_push 75 = .ok (.iload_n 1, 1) := by decide +kernel
theorem dX8_push_76 : decode cX8_push 76 = .ok (.iconst 1, 1) := by decide +kernel
theorem dX8_push_77 : decode cX8_push 77 = .ok (.iadd, 1) := by decide +kernel
theorem dX8_push_78 : decode cX8_push 78 = .ok (.invokestatic 47, 3) := by decide +kernel
theorem dX8_push_81 : decode cX8_push 81 = .ok (.iastore, 1) := by decide +kernel
theorem dX8_push_82 : decode cX8_push 82 = .ok (.aload_n 0, 1) := by decide +kernel
theorem dX8_push_83 : decode cX8_push 83 = .ok (.getfield 35, 3) := by decide +kernel
theorem dX8_push_86 : decode cX8_push 86 = .ok (.iconst 3, 1) := by decide +kernel
theorem dX8_push_87 : decode cX8_push 87 = .ok (.if_icmp .ne 8, 3) := by decide +kernel
theorem dX8_push_90 : decode cX8_push 90 = .ok (.aload_n 0, 1) := by decide +kernel
theorem dX8_push_91 : decode cX8_push 91 = .ok (.iload_n 1, 1) := by decide +kernel
theorem dX8_push_92 : decode cX8_push 92 = .ok (.invokevirtual 53, 3) := by decide +kernel
theorem dX8_push_95 : decode cX8_push 95 = .ok (.aload_n 0, 1) := by decide +kernel
theorem dX8_push_96 : decode cX8_push 96 = .ok (.dup, 1) := by decide +kernel
theorem dX8_push_97 : decode cX8_push 97 = .ok (.getfield 31, 3) := by decide +kernel
theorem dX8_push_100 : decode cX8_push 100 = .ok (.iconst 1, 1) := by decide +kernel
theorem dX8_push_101 : decode cX8_push 101 = .ok (.iadd, 1) := by decide +kernel
theorem dX8_push_102 : decode cX8_push 102 = .ok (.putfield 31, 3) := by decide +kernel
theorem dX8_push_105 : decode cX8_push 105 = .ok (.return_, 1) := by decide +kernel
theorem dX8_sumPairs_0 : decode cX8_sumPairs 0 = .ok (.aload_n 0, 1) := by decide +kernel
theorem dX8_sumPairs_1 : decode cX8_sumPairs 1 = .ok (.getfield 22, 3) := by decide +kernel
theorem dX8_sumPairs_4 : decode cX8_sumPairs 4 = .ok (.aload_n 0, 1) := by decide +kernel
theorem dX8_sumPairs_5 : decode cX8_sumPairs 5 = .ok (.getfield 31, 3) := by decide +kernel
theorem dX8_sumPairs_8 : decode cX8_sumPairs 8 = .ok (.iconst 1, 1) := by decide +kernel
theorem dX8_sumPairs_9 : decode cX8_sumPairs 9 = .ok (.iadd, 1) := by decide +kernel
theorem dX8_sumPairs_10 : decode cX8_sumPairs 10 = .ok (.aload_n 0, 1) := by decide +kernel
theorem dX8_sumPairs_11 : decode cX8_sumPairs 11 = .ok (.getfield 22, 3) := by decide +kernel
theorem dX8_sumPairs_14 : decode cX8_sumPairs 14 = .ok (.aload_n 0, 1) := by decide +kernel
theorem dX8_sumPairs_15 : decode cX8_sumPairs 15 = .ok (.getfield 31, 3) := by decide +kernel
theorem dX8_sumPairs_18 : decode cX8_sumPairs 18 = .ok (.laload, 1) := by decide +kernel
theorem dX8_sumPairs_19 : decode cX8_sumPairs 19 = .ok (.lastore, 1) := by decide +kernel
theorem dX8_sumPairs_20 : decode cX8_sumPairs 20 = .ok (.aload_n 0, 1) := by decide +kernel
theorem dX8_sumPairs_21 : decode cX8_sumPairs 21 = .ok (.getfield 25, 3) := by decide +kernel
theorem dX8_sumPairs_24 : decode cX8_sumPairs 24 = .ok (.aload_n 0, 1) := by decide +kernel
theorem dX8_sumPairs_25 : decode cX8_sumPairs 25 = .ok (.getfield 31, 3) := by decide +kernel
theorem dX8_sumPairs_28 : decode cX8_sumPairs 28 = .ok (.iconst 1, 1) := by decide +kernel
theorem dX8_sumPairs_29 : decode cX8_sumPairs 29 = .ok (.iadd, 1) := by decide +kernel
theorem dX8_sumPairs_30 : decode cX8_sumPairs 30 = .ok (.aload_n 0, 1) := by decide +kernel
theorem dX8_sumPairs_31 : decode cX8_sumPairs 31 = .ok (.getfield 25, 3) := by decide +kernel
theorem dX8_sumPairs_34 : decode cX8_sumPairs 34 = .ok (.aload_n 0, 1) := by decide +kernel
theorem dX8_sumPairs_35 : decode cX8_sumPairs 35 = .ok (.getfield 31, 3) := by decide +kernel
theorem dX8_sumPairs_38 : decode cX8_sumPairs 38 = .ok (.laload, 1) := by decide +kernel
theorem dX8_sumPairs_39 : decode cX8_sumPairs 39 = .ok (.lastore, 1) := by decide +kernel
theorem dX8_sumPairs_40 : decode cX8_sumPairs 40 = .ok (.aload_n 0, 1) := by decide +kernel
theorem dX8_sumPairs_41 : decode cX8_sumPairs 41 = .ok (.getfield 31, 3) := by decide +kernel
theorem dX8_sumPairs_44 : decode cX8_sumPairs 44 = .ok (.ifCond .ne 4, 3) := by decide +kernel
theorem dX8_sumPairs_47 : decode cX8_sumPairs 47 = .ok (.return_, 1) := by decide +kernel
theorem dX8_sumPairs_48 : decode cX8_sumPairs 48 = .ok (.iconst 4, 1) := by decide +kernel
theorem dX8_sumPairs_49 : decode cX8_sumPairs 49 = .ok (.aload_n 0, 1) := by decide +kernel
theorem dX8_sumPairs_50 : decode cX8_sumPairs 50 = .ok (.getfield 9, 3) := by decide +kernel
theorem dX8_sumPairs_53 : decode cX8_sumPairs 53 = .ok (.aload_n 0, 1) := by decide +kernel
theorem dX8_sumPairs_54 : decode cX8_sumPairs 54 = .ok (.getfield 31, 3) := by decide +kernel
theorem dX8_sumPairs_57 : decode cX8_sumPairs 57 = .ok (.iconst 1, 1) := by decide +kernel
theorem dX8_sumPairs_58 : decode cX8_sumPairs 58 = .ok (.isub, 1) := by decide +kernel
theorem dX8_sumPairs_59 : decode cX8_sumPairs 59 = .ok (.iaload, 1) := by decide +kernel
theorem dX8_sumPairs_60 : decode cX8_sumPairs 60 = .ok (.imul, 1) := by decide +kernel
theorem dX8_sumPairs_61 : decode cX8_sumPairs 61 = .ok (.iload_n 1, 1) := by decide +kernel
theorem dX8_sumPairs_62 : decode cX8_sumPairs 62 = .ok (.iadd, 1) := by decide +kernel
theorem dX8_sumPairs_63 : decode cX8_sumPairs 63 = .ok (.istore_n 2, 1) := by decide +kernel
theorem dX8_sumPairs_64 : decode cX8_sumPairs 64 = .ok (.iload_n 2, 1) := by decide +kernel
theorem dX8_sumPairs_65 : decode cX8_sumPairs 65 = .ok (.bipush 8, 2) := by decide +kernel
theorem dX8_sumPairs_67 : decode cX8_sumPairs 67 = .ok (.if_icmp .ge 26, 3) := by decide +kernel
theorem dX8_sumPairs_70 : decode cX8_sumPairs 70 = .ok (.aload_n 0, 1) := by decide +kernel
theorem dX8_sumPairs_71 : decode cX8_sumPairs 71 = .ok (.getfield 22, 3) := by decide +kernel
theorem dX8_sumPairs_74 : decode cX8_sumPairs 74 = .ok (.aload_n 0, 1) := by decide +kernel
theorem dX8_sumPairs_75 : decode cX8_sumPairs 75 = .ok (.getfield 31, 3) := by decide +kernel
theorem dX8_sumPairs_78 : decode cX8_sumPairs 78 = .ok (.iconst 1, 1) := by decide +kernel
theorem dX8_sumPairs_79 : decode cX8_sumPairs 79 = .ok (.iadd, 1) := by decide +kernel
theorem dX8_sumPairs_80 : decode cX8_sumPairs 80 = .ok (.dup2, 1) := by decide +kernel
theorem dX8_sumPairs_81 : decode cX8_sumPairs 81 = .ok (.laload, 1) := by decide +kernel
theorem dX8_sumPairs_82 : decode cX8_sumPairs 82 = .ok (.lconst 1, 1) := by decide +kernel
theorem dX8_sumPairs_83 : decode cX8_sumPairs 83 = .ok (.bipush 8, 2) := by decide +kernel
theorem dX8_sumPairs_85 : decode cX8_sumPairs 85 = .ok (.iload_n 2, 1) := by decide +kernel
theorem dX8_sumPairs_86 : decode cX8_sumPairs 86 = .ok (.imul, 1) := by decide +kernel
theorem dX8_sumPairs_87 : decode cX8_sumPairs 87 = .ok (.lshl, 1) := by decide +kernel
theorem dX8_sumPairs_88 : decode cX8_sumPairs 88 = .ok (.ladd, 1) := by decide +kernel
theorem dX8_sumPairs_89 : decode cX8_sumPairs 89 = .ok (.lastore, 1) := by decide +kernel
theorem dX8_sumPairs_90 : decode cX8_sumPairs 90 = .ok (.goto 26, 3) := by decide +kernel
theorem dX8_sumPairs_93 : decode cX8_sumPairs 93 = .ok (.aload_n 0, 1) := by decide +kernel
theorem dX8_sumPairs_94 : decode cX8_sumPairs 94 = .ok (.getfield 25, 3) := by decide +kernel
theorem dX8_sumPairs_97 : decode cX8_sumPairs 97 = .ok (.aload_n 0, 1) := by decide +kernel
theorem dX8_sumPairs_98 : decode cX8_sumPairs 98 = .ok (.getfield 31, 3) := by decide +kernel
theorem dX8_sumPairs_101 : decode cX8_sumPairs 101 = .ok (.iconst 1, 1) := by decide +kernel
theorem dX8_sumPairs_102 : decode cX8_sumPairs 102 = .ok (.iadd, 1) := by decide +kernel
theorem dX8_sumPairs_103 : decode cX8_sumPairs 103 = .ok (.dup2, 1) := by decide +kernel
theorem dX8_sumPairs_104 : decode cX8_sumPairs 104 = .ok (.laload, 1) := by decide +kernel
theorem dX8_sumPairs_105 : decode cX8_sumPairs 105 = .ok (.lconst 1, 1) := by decide +kernel
theorem dX8_sumPairs_106 : decode cX8_sumPairs 106 = .ok (.bipush 8, 2) := by decide +kernel
theorem dX8_sumPairs_108 : decode cX8_sumPairs 108 = .ok (.iload_n 2, 1) := by decide +kernel
theorem dX8_sumPairs_109 : decode cX8_sumPairs 109 = .ok (.bipush 8, 2) := by decide +kernel
theorem dX8_sumPairs_111 : decode cX8_sumPairs 111 = .ok (.isub, 1) := by decide +kernel
theorem dX8_sumPairs_112 : decode cX8_sumPairs 112 = .ok (.imul, 1) := by decide +kernel
theorem dX8_sumPairs_113 : decode cX8_sumPairs 113 = .ok (.lshl, 1) := by decide +kernel
theorem dX8_sumPairs_114 : decode cX8_sumPairs 114 = .ok (.ladd, 1) := by decide +kernel
theorem dX8_sumPairs_115 : decode cX8_sumPairs 115 = .ok (.lastore, 1) := by decide +kernel
theorem dX8_sumPairs_116 : decode cX8_sumPairs 116 = .ok (.return_, 1) := by decide +kernel
set_option maxRecDepth 20000 in
theorem ggX8_pushAll_X8_push : GoodIn wsX8_pushAll wsX8_push := goodIn_r _ [7, 8, 9, 10, 11, 12, 13, 14, 15, 16, 17, 18, 19, 20, 6, 21, 22, 23, 26, 27, 28, 29, 30, 31, 32, 33, 34] rfl (by decide +kernel)
set_option maxRecDepth 20000 in
theorem gX8_pushAll_X8_push : GoodIn wsX8_pushAll (wsV RX8 61 RX8 yX8_push wsX8_push) := goodIn_app (goodIn_r _ [3, 4, 5, 6] rfl (by decide +kernel)) ggX8_pushAll_X8_push
theorem dX8_pushAll_0 : decode cX8_pushAll 0 = .ok (.iconst 0, 1) := by decide +kernel
theorem dX8_pushAll_1 : decode cX8_pushAll 1 = .ok (.istore_n 2, 1) := by decide +kernel
theorem dX8_pushAll_2 : decode cX8_pushAll 2 = .ok (.iload_n 2, 1) := by decide +kernel
theorem dX8_pushAll_3 : decode cX8_pushAll 3 = .ok (.aload_n 1, 1) := by decide +kernel
theorem dX8_pushAll_4 : decode cX8_pushAll 4 = .ok (.getfield 57, 3) := by decide +kernel
theorem dX8_pushAll_7 : decode cX8_pushAll 7 = .ok (.if_icmp .ge 19, 3) := by decide +kernel
theorem dX8_pushAll_10 : decode cX8_pushAll 10 = .ok (.aload_n 0, 1) := by decide +kernel
theorem dX8_pushAll_11 : decode cX8_pushAll 11 = .ok (.aload_n 1, 1) := by decide +kernel
theorem dX8_pushAll_12 : decode cX8_pushAll 12 = .ok (.getfield 60, 3) := by decide +kernel
theorem dX8_pushAll_15 : decode cX8_pushAll 15 = .ok (.iload_n 2, 1) := by decide +kernel
theorem dX8_pushAll_16 : decode cX8_pushAll 16 = .ok (.iaload, 1) := by decide +kernel
theorem dX8_pushAll_17 : decode cX8_pushAll 17 = .ok (.invokevirtual 61, 3) := by decide +kernel
theorem dX8_pushAll_20 : decode cX8_pushAll 20 = .ok (.iinc 2 1, 3) := by decide +kernel
theorem dX8_pushAll_23 : decode cX8_pushAll 23 = .ok (.goto (-21), 3) := by decide +kernel
theorem dX8_pushAll_26 : decode cX8_pushAll 26 = .ok (.return_, 1) := by decide +kernel
theorem dX8_pop_0 : decode cX8_pop 0 = .ok (.aload_n 0, 1) := by decide +kernel
theorem dX8_pop_1 : decode cX8_pop 1 = .ok (.getfield 31, 3) := by decide +kernel
theorem dX8_pop_4 : decode cX8_pop 4 = .ok (.ifCond .ne 5, 3) := by decide +kernel
theorem dX8_pop_7 : decode cX8_pop 7 = .ok (.iconst (-1), 1) := by decide +kernel
theorem dX8_pop_8 : decode cX8_pop 8 = .ok (.ireturn, 1) := by decide +kernel
theorem dX8_pop_9 : decode cX8_pop 9 = .ok (.aload_n 0, 1) := by decide +kernel
theorem dX8_pop_10 : decode cX8_pop 10 = .ok (.dup, 1) := by decide +kernel
theorem dX8_pop_11 : decode cX8_pop 11 = .ok (.getfield 31, 3) := by decide +kernel
theorem dX8_pop_14 : decode cX8_pop 14 = .ok (.iconst 1, 1) := by decide +kernel
theorem dX8_pop_15 : decode cX8_pop 15 = .ok (.isub, 1) := by decide +kernel
theorem dX8_pop_16 : decode cX8_pop 16 = .ok (.putfield 31, 3) := by decide +kernel
theorem dX8_pop_19 : decode cX8_pop 19 = .ok (.aload_n 0, 1) := by decide +kernel
theorem dX8_pop_20 : decode cX8_pop 20 = .ok (.getfield 9, 3) := by decide +kernel
theorem dX8_pop_23 : decode cX8_pop 23 = .ok (.aload_n 0, 1) := by decide +kernel
theorem dX8_pop_24 : decode cX8_pop 24 = .ok (.getfield 31, 3) := by decide +kernel
theorem dX8_pop_27 : decode cX8_pop 27 = .ok (.iaload, 1) := by decide +kernel
theorem dX8_pop_28 : decode cX8_pop 28 = .ok (.ireturn, 1) := by decide +kernel
set_option maxRecDepth 20000 in
theorem ggX8_copyTo_X9_put : GoodIn wsX8_copyTo wsX9_put := goodIn_r _ [8, 9, 10, 11, 12] rfl (by decide +kernel)
set_option maxRecDepth 20000 in
theorem gX8_copyTo_X9_put : GoodIn wsX8_copyTo (wsV RX8 64 RX9 yX9_put wsX9_put) := goodIn_app (goodIn_r _ [4, 5, 6, 7] rfl (by decide +kernel)) ggX8_copyTo_X9_put
theorem dX8_copyTo_0 : decode cX8_copyTo 0 = .ok (.aload_n 1, 1) := by decide +kernel
theorem dX8_copyTo_1 : decode cX8_copyTo 1 = .ok (.iconst 0, 1) := by decide +kernel
theorem dX8_copyTo_2 : decode cX8_copyTo 2 = .ok (.putfield 57, 3) := by decide +kernel
theorem dX8_copyTo_5 : decode cX8_copyTo 5 = .ok (.iconst 0, 1) := by decide +kernel
theorem dX8_copyTo_6 : decode cX8_copyTo 6 = .ok (.istore_n 2, 1) := by decide +kernel
theorem dX8_copyTo_7 : decode cX8_copyTo 7 = .ok (.iload_n 2, 1) := by decide +kernel
theorem dX8_copyTo_8 : decode cX8_copyTo 8 = .ok (.aload_n 0, 1) := by decide +kernel
theorem dX8_copyTo_9 : decode cX8_copyTo 9 = .ok (.getfield 31, 3) := by decide +kernel
theorem dX8_copyTo_12 : decode cX8_copyTo 12 = .ok (.if_icmp .ge 19, 3) := by decide +kernel
theorem dX8_copyTo_15 : decode cX8_copyTo 15 = .ok (.aload_n 1, 1) := by decide +kernel
theorem dX8_copyTo_16 : decode cX8_copyTo 16 = .ok (.aload_n 0, 1) := by decide +kernel
theorem dX8_copyTo_17 : decode cX8_copyTo 17 = .ok (.getfield 9, 3) := by decide +kernel
theorem dX8_copyTo_20 : decode cX8_copyTo 20 = .ok (.iload_n 2, 1) := by decide +kernel
theorem dX8_copyTo_21 : decode cX8_copyTo 21 = .ok (.iaload, 1) := by decide +kernel
theorem dX8_copyTo_22 : decode cX8_copyTo 22 = .ok (.invokevirtual 64, 3) := by decide +kernel
theorem dX8_copyTo_25 : decode cX8_copyTo 25 = .ok (.iinc 2 1, 3) := by decide +kernel
theorem dX8_copyTo_28 : decode cX8_copyTo 28 = .ok (.goto (-21), 3) := by decide +kernel
theorem dX8_copyTo_31 : decode cX8_copyTo 31 = .ok (.return_, 1) := by decide +kernel
set_option maxRecDepth 20000 in
theorem ggX8_sameBlocks_X8_sameLetters : GoodIn wsX8_sameBlocks wsX8_sameLetters := goodIn_r _ [8, 3, 15, 16, 17, 18, 19, 20, 21, 22, 23] rfl (by decide +kernel)
set_option maxRecDepth 20000 in
theorem gX8_sameBlocks_X8_sameLetters : GoodIn wsX8_sameBlocks (wsV RX8 67 RX8 yX8_sameLetters wsX8_sameLetters) := goodIn_app (goodIn_r _ [4, 5, 6, 7] rfl (by decide +kernel)) ggX8_sameBlocks_X8_sameLetters
set_option maxRecDepth 20000 in
theorem ggX8_sameBlocks_X8_samePairs : GoodIn wsX8_sameBlocks wsX8_samePairs := goodIn_r _ [12, 13, 14, 15, 16, 17, 18, 19, 20, 21, 22, 23] rfl (by decide +kernel)
set_option maxRecDepth 20000 in
theorem gX8_sameBlocks_X8_samePairs : GoodIn wsX8_sameBlocks (wsV RX8 71 RX8 yX8_samePairs wsX8_samePairs) := goodIn_app (goodIn_r _ [9, 10, 11, 7] rfl (by decide +kernel)) ggX8_sameBlocks_X8_samePairs
theorem dX8_sameBlocks_0 : decode cX8_sameBlocks 0 = .ok (.aload_n 0, 1) := by decide +kernel
theorem dX8_sameBlocks_1 : decode cX8_sameBlocks 1 = .ok (.getfield 35, 3) := by decide +kernel
theorem dX8_sameBlocks_4 : decode cX8_sameBlocks 4 = .ok (.ifCond .ne 11, 3) := by decide +kernel
theorem dX8_sameBlocks_7 : decode cX8_sameBlocks 7 = .ok (.aload_n 0, 1) := by decide +kernel
theorem dX8_sameBlocks_8 : decode cX8_sameBlocks 8 = .ok (.iload_n 1, 1) := by decide +kernel
theorem dX8_sameBlocks_9 : decode cX8_sameBlocks 9 = .ok (.iload_n 2, 1) := by decide +kernel
theorem dX8_sameBlocks_10 : decode cX8_sameBlocks 10 = .ok (.iload_n 3, 1) := by decide +kernel
theorem dX8_sameBlocks_11 : decode cX8_sameBlocks 11 = .ok (.invokevirtual 67, 3) := by decide +kernel
theorem dX8_sameBlocks_14 : decode cX8_sameBlocks 14 = .ok (.ireturn, 1) := by decide +kernel
theorem dX8_sameBlocks_15 : decode cX8_sameBlocks 15 = .ok (.aload_n 0, 1) := by decide +kernel
theorem dX8_sameBlocks_16 : decode cX8_sameBlocks 16 = .ok (.getfield 18, 3) := by decide +kernel
theorem dX8_sameBlocks_19 : decode cX8_sameBlocks 19 = .ok (.iload_n 1, 1) := by decide +kernel
theorem dX8_sameBlocks_20 : decode cX8_sameBlocks 20 = .ok (.iload_n 3, 1) := by decide +kernel
theorem dX8_sameBlocks_21 : decode cX8_sameBlocks 21 = .ok (.iadd, 1) := by decide +kernel
theorem dX8_sameBlocks_22 : decode cX8_sameBlocks 22 = .ok (.laload, 1) := by decide +kernel
theorem dX8_sameBlocks_23 : decode cX8_sameBlocks 23 = .ok (.aload_n 0, 1) := by decide +kernel
theorem dX8_sameBlocks_24 : decode cX8_sameBlocks 24 = .ok (.getfield 18, 3) := by decide +kernel
theorem dX8_sameBlocks_27 : decode cX8_sameBlocks 27 = .ok (.iload_n 1, 1) := by decide +kernel
theorem dX8_sameBlocks_28 : decode cX8_sameBlocks 28 = .ok (.laload, 1) := by decide +kernel
theorem dX8_sameBlocks_29 : decode cX8_sameBlocks 29 = .ok (.lsub, 1) := by decide +kernel
theorem dX8_sameBlocks_30 : decode cX8_sameBlocks 30 = .ok (.aload_n 0, 1) := by decide +kernel
theorem dX8_sameBlocks_31 : decode cX8_sameBlocks 31 = .ok (.getfield 18, 3) := by decide +kernel
theorem dX8_sameBlocks_34 : decode cX8_sameBlocks 34 = .ok (.iload_n 2, 1) := by decide +kernel
theorem dX8_sameBlocks_35 : decode cX8_sameBlocks 35 = .ok (.iload_n 3, 1) := by decide +kernel
theorem dX8_sameBlocks_36 : decode cX8_sameBlocks 36 = .ok (.iadd, 1) := by decide +kernel
theorem dX8_sameBlocks_37 : decode cX8_sameBlocks 37 = .ok (.laload, 1) := by decide +kernel
theorem dX8_sameBlocks_38 : decode cX8_sameBlocks 38 = .ok (.aload_n 0, 1) := by decide +kernel
theorem dX8_sameBlocks_39 : decode cX8_sameBlocks 39 = .ok (.getfield 18, 3) := by decide +kernel
theorem dX8_sameBlocks_42 : decode cX8_sameBlocks 42 = .ok (.iload_n 2, 1) := by decide +kernel
theorem dX8_sameBlocks_43 : decode cX8_sameBlocks 43 = .ok (.laload, 1) := by decide +kernel
theorem dX8_sameBlocks_44 : decode cX8_sameBlocks 44 = .ok (.lsub, 1) := by decide +kernel
theorem dX8_sameBlocks_45 : decode cX8_sameBlocks 45 = .ok (.lcmp, 1) := by decide +kernel
theorem dX8_sameBlocks_46 : decode cX8_sameBlocks 46 = .ok (.ifCond .eq 5, 3) := by decide +kernel
theorem dX8_sameBlocks_49 : decode cX8_sameBlocks 49 = .ok (.iconst 0, 1) := by decide +kernel
theorem dX8_sameBlocks_50 : decode cX8_sameBlocks 50 = .ok (.ireturn, 1) := by decide +kernel
theorem dX8_sameBlocks_51 : decode cX8_sameBlocks 51 = .ok (.aload_n 0, 1) := by decide +kernel
theorem dX8_sameBlocks_52 : decode cX8_sameBlocks 52 = .ok (.getfield 35, 3) := by decide +kernel
theorem dX8_sameBlocks_55 : decode cX8_sameBlocks 55 = .ok (.iconst 3, 1) := by decide +kernel
theorem dX8_sameBlocks_56 : decode cX8_sameBlocks 56 = .ok (.if_icmp .ne 32, 3) := by decide +kernel
theorem dX8_sameBlocks_59 : decode cX8_sameBlocks 59 = .ok (.iload_n 3, 1) := by decide +kernel
theorem dX8_sameBlocks_60 : decode cX8_sameBlocks 60 = .ok (.ifCond .eq 28, 3) := by decide +kernel
theorem dX8_sameBlocks_63 : decode cX8_sameBlocks 63 = .ok (.aload_n 0, 1) := by decide +kernel
theorem dX8_sameBlocks_64 : decode cX8_sameBlocks 64 = .ok (.getfield 9, 3) := by decide +kernel
theorem dX8_sameBlocks_67 : decode cX8_sameBlocks 67 = .ok (.iload_n 1, 1) := by decide +kernel
theorem dX8_sameBlocks_68 : decode cX8_sameBlocks 68 = .ok (.iaload, 1) := by decide +kernel
theorem dX8_sameBlocks_69 : decode cX8_sameBlocks 69 = .ok (.aload_n 0, 1) := by decide +kernel
theorem dX8_sameBlocks_70 : decode cX8_sameBlocks 70 = .ok (.getfield 9, 3) := by decide +kernel
theorem dX8_sameBlocks_73 : decode cX8_sameBlocks 73 = .ok (.iload_n 2, 1) := by decide +kernel
theorem dX8_sameBlocks_74 : decode cX8_sameBlocks 74 = .ok (.iaload, 1) := by decide +kernel
theorem dX8_sameBlocks_75 : decode cX8_sameBlocks 75 = .ok (.if_icmp .ne 17, 3) := by decide +kernel
theorem dX8_sameBlocks_78 : decode cX8_sameBlocks 78 = .ok (.aload_n 0, 1) := by decide +kernel
theorem dX8_sameBlocks_79 : decode cX8_sameBlocks 79 = .ok (.iload_n 1, 1) := by decide +kernel
theorem dX8_sameBlocks_80 : decode cX8_sameBlocks 80 = .ok (.iload_n 2, 1) := by decide +kernel
theorem dX8_sameBlocks_81 : decode cX8_sameBlocks 81 = .ok (.iload_n 3, 1) := by decide +kernel
theorem dX8_sameBlocks_82 : decode cX8_sameBlocks 82 = .ok (.invokevirtual 71, 3) := by decide +kernel
theorem dX8_sameBlocks_85 : decode cX8_sameBlocks 85 = .ok (.ifCond .eq 7, 3) := by decide +kernel
theorem dX8_sameBlocks_88 : decode cX8_sameBlocks 88 = .ok (.iconst 1, 1) := by decide +kernel
theorem dX8_sameBlocks_89 : decode cX8_sameBlocks 89 = .ok (.goto 4, 3) := by decide +kernel
theorem dX8_sameBlocks_92 : decode cX8_sameBlocks 92 = .ok (.iconst 0, 1) := by decide +kernel
theorem dX8_sameBlocks_93 : decode cX8_sameBlocks 93 = .ok (.ireturn, 1) := by decide +kernel
theorem dX8_sameLetters_0 : decode cX8_sameLetters 0 = .ok (.iconst 0, 1) := by decide +kernel
theorem dX8_sameLetters_1 : decode cX8_sameLetters 1 = .ok (.istore 4, 2) := by decide +kernel
theorem dX8_sameLetters_3 : decode cX8_sameLetters 3 = .ok (.iload 4, 2) := by decide +kernel
theorem dX8_sameLetters_5 : decode cX8_sameLetters 5 = .ok (.iload_n 3, 1) := by decide +kernel
theorem dX8_sameLetters_6 : decode cX8_sameLetters 6 = .ok (.if_icmp .ge 32, 3) := by decide +kernel
theorem dX8_sameLetters_9 : decode cX8_sameLetters 9 = .ok (.aload_n 0, 1) := by decide +kernel
theorem dX8_sameLetters_10 : decode cX8_sameLetters 10 = .ok (.getfield 9, 3) := by decide +kernel
theorem dX8_sameLetters_13 : decode cX8_sameLetters 13 = .ok (.iload_n 1, 1) := by decide +kernel
theorem dX8_sameLetters_14 : decode cX8_sameLetters 14 = .ok (.iload 4, 2) := by decide +kernel
theorem dX8_sameLetters_16 : decode cX8_sameLetters 16 = .ok (.iadd, 1) := by decide +kernel
theorem dX8_sameLetters_17 : decode cX8_sameLetters 17 = .ok (.iaload, 1) := by decide +kernel
theorem dX8_sameLetters_18 : decode cX8_sameLetters 18 = .ok (.aload_n 0, 1) := by decide +kernel
theorem dX8_sameLetters_19 : decode cX8_sameLetters 19 = .ok (.getfield 9, 3) := by decide +kernel
theorem dX8_sameLetters_22 : decode cX8_sameLetters 22 = .ok (.iload_n 2, 1) := by decide +kernel
theorem dX8_sameLetters_23 : decode cX8_sameLetters 23 = .ok (.iload 4, 2) := by decide +kernel
theorem dX8_sameLetters_25 : decode cX8_sameLetters 25 = .ok (.iadd, 1) := by decide +kernel
theorem dX8_sameLetters_26 : decode cX8_sameLetters 26 = .ok (.iaload, 1) := by decide +kernel
theorem dX8_sameLetters_27 : decode cX8_sameLetters 27 = .ok (.if_icmp .eq 5, 3) := by decide +kernel
theorem dX8_sameLetters_30 : decode cX8_sameLetters 30 = .ok (.iconst 0, 1) := by decide +kernel
theorem dX8_sameLetters_31 : decode cX8_sameLetters 31 = .ok (.ireturn, 1) := by decide +kernel
theorem dX8_sameLetters_32 : decode cX8_sameLetters 32 = .ok (.iinc 4 1, 3) := by decide +kernel
theorem dX8_sameLetters_35 : decode cX8_sameLetters 35 = .ok (.goto (-32), 3) := by decide +kernel
theorem dX8_sameLetters_38 : decode cX8_sameLetters 38 = .ok (.iconst 1, 1) := by decide +kernel
theorem dX8_sameLetters_39 : decode cX8_sameLetters 39 = .ok (.ireturn, 1) := by decide +kernel
theorem dX8_samePairs_0 : decode cX8_samePairs 0 = .ok (.aload_n 0, 1) := by decide +kernel
theorem dX8_samePairs_1 : decode cX8_samePairs 1 = .ok (.getfield 22, 3) := by decide +kernel
theorem dX8_samePairs_4 : decode cX8_samePairs 4 = .ok (.iload_n 1, 1) := by decide +kernel
theorem dX8_samePairs_5 : decode cX8_samePairs 5 = .ok (.iload_n 3, 1) := by decide +kernel
theorem dX8_samePairs_6 : decode cX8_samePairs 6 = .ok (.iadd, 1) := by decide +kernel
theorem dX8_samePairs_7 : decode cX8_samePairs 7 = .ok (.laload, 1) := by decide +kernel
theorem dX8_samePairs_8 : decode cX8_samePairs 8 = .ok (.aload_n 0, 1) := by decide +kernel
theorem dX8_samePairs_9 : decode cX8_samePairs 9 = .ok (.getfield 22, 3) := by decide +kernel
theorem dX8_samePairs_12 : decode cX8_samePairs 12 = .ok (.iload_n 1, 1) := by decide +kernel
theorem dX8_samePairs_13 : decode cX8_samePairs 13 = .ok (.iconst 1, 1) := by decide +kernel
theorem dX8_samePairs_14 : decode cX8_samePairs 14 = .ok (.iadd, 1) := by decide +kernel
theorem dX8_samePairs_15 : decode cX8_samePairs 15 = .ok (.laload, 1) := by decide +kernel
theorem dX8_samePairs_16 : decode cX8_samePairs 16 = .ok (.lsub, 1) := by decide +kernel
theorem dX8_samePairs_17 : decode cX8_samePairs 17 = .ok (.aload_n 0, 1) := by decide +kernel
theorem dX8_samePairs_18 : decode cX8_samePairs 18 = .ok (.getfield 22, 3) := by decide +kernel
theorem dX8_samePairs_21 : decode cX8_samePairs 21 = .ok (.iload_n 2, 1) := by decide +kernel
theorem dX8_samePairs_22 : decode cX8_samePairs 22 = .ok (.iload_n 3, 1) := by decide +kernel
theorem dX8_samePairs_23 : decode cX8_samePairs 23 = .ok (.iadd, 1) := by decide +kernel
theorem dX8_samePairs_24 : decode cX8_samePairs 24 = .ok (.laload, 1) := by decide +kernel
theorem dX8_samePairs_25 : decode cX8_samePairs 25 = .ok (.aload_n 0, 1) := by decide +kernel
theorem dX8_samePairs_26 : decode cX8_samePairs 26 = .ok (.getfield 22, 3) := by decide +kernel
theorem dX8_samePairs_29 : decode cX8_samePairs 29 = .ok (.iload_n 2, 1) := by decide +kernel
theorem dX8_samePairs_30 : decode cX8_samePairs 30 = .ok (.iconst 1, 1) := by decide +kernel
theorem dX8_samePairs_31 : decode cX8_samePairs 31 = .ok (.iadd, 1) := by decide +kernel
theorem dX8_samePairs_32 : decode cX8_samePairs 32 = .ok (.laload, 1) := by decide +kernel
theorem dX8_samePairs_33 : decode cX8_samePairs 33 = .ok (.lsub, 1) := by decide +kernel
theorem dX8_samePairs_34 : decode cX8_samePairs 34 = .ok (.lcmp, 1) := by decide +kernel
theorem dX8_samePairs_35 : decode cX8_samePairs 35 = .ok (.ifCond .ne 45, 3) := by decide +kernel
theorem dX8_samePairs_38 : decode cX8_samePairs 38 = .ok (.aload_n 0, 1) := by decide +kernel
theorem dX8_samePairs_39 : decode cX8_samePairs 39 = .ok (.getfield 25, 3) := by decide +kernel
theorem dX8_samePairs_42 : decode cX8_samePairs 42 = .ok (.iload_n 1, 1) := by decide +kernel
theorem dX8_samePairs_43 : decode cX8_samePairs 43 = .ok (.iload_n 3, 1) := by decide +kernel
theorem dX8_samePairs_44 : decode cX8_samePairs 44 = .ok (.iadd, 1) := by decide +kernel
theorem dX8_samePairs_45 : decode cX8_samePairs 45 = .ok (.laload, 1) := by decide +kernel
theorem dX8_samePairs_46 : decode cX8_samePairs 46 = .ok (.aload_n 0, 1) := by decide +kernel
theorem dX8_samePairs_47 : decode cX8_samePairs 47 = .ok (.getfield 25, 3) := by decide +kernel
theorem dX8_samePairs_50 : decode cX8_samePairs 50 = .ok (.iload_n 1, 1) := by decide +kernel
theorem dX8_samePairs_51 : decode cX8_samePairs 51 = .ok (.iconst 1, 1) := by decide +kernel
theorem dX8_samePairs_52 : decode cX8_samePairs 52 = .ok (.iadd, 1) := by decide +kernel
theorem dX8_samePairs_53 : decode cX8_samePairs 53 = .ok (.laload, 1) := by decide +kernel
theorem dX8_samePairs_54 : decode cX8_samePairs 54 = .ok (.lsub, 1) := by decide +kernel
theorem dX8_samePairs_55 : decode cX8_samePairs 55 = .ok (.aload_n 0, 1) := by decide +kernel
theorem dX8_samePairs_56 : decode cX8_samePairs 56 = .ok (.getfield 25, 3) := by decide +kernel
theorem dX8_samePairs_59 : decode cX8_samePairs 59 = .ok (.iload_n 2, 1) := by decide +kernel
theorem dX8_samePairs_60 : decode cX8_samePairs 60 = .ok (.iload_n 3, 1) := by decide +kernel
theorem dX8_samePairs_61 : decode cX8_samePairs 61 = .ok (.iadd, 1) := by decide +kernel
theorem dX8_samePairs_62 : decode cX8_samePairs 62 = .ok (.laload, 1) := by decide +kernel
theorem dX8_samePairs_63 : decode cX8_samePairs 63 = .ok (.aload_n 0, 1) := by decide +kernel
theorem dX8_samePairs_64 : decode cX8_samePairs 64 = .ok (.getfield 25, 3) := by decide +kernel
theorem dX8_samePairs_67 : decode cX8_samePairs 67 = .ok (.iload_n 2, 1) := by decide +kernel
theorem dX8_samePairs_68 : decode cX8_samePairs 68 = .ok (.iconst 1, 1) := by decide +kernel
theorem dX8_samePairs_69 : decode cX8_samePairs 69 = .ok (.iadd, 1) := by decide +kernel
theorem dX8_samePairs_70 : decode cX8_samePairs 70 = .ok (.laload, 1) := by decide +kernel
theorem dX8_samePairs_71 : decode cX8_samePairs 71 = .ok (.lsub, 1) := by decide +kernel
theorem dX8_samePairs_72 : decode cX8_samePairs 72 = .ok (.lcmp, 1) := by decide +kernel
theorem dX8_samePairs_73 : decode cX8_samePairs 73 = .ok (.ifCond .ne 7, 3) := by decide +kernel
theorem dX8_samePairs_76 : decode cX8_samePairs 76 = .ok (.iconst 1, 1) := by decide +kernel
theorem dX8_samePairs_77 : decode cX8_samePairs 77 = .ok (.goto 4, 3) := by decide +kernel
theorem dX8_samePairs_80 : decode cX8_samePairs 80 = .ok (.iconst 0, 1) := by decide +kernel
theorem dX8_samePairs_81 : decode cX8_samePairs 81 = .ok (.ireturn, 1) := by decide +kernel
set_option maxRecDepth 20000 in
theorem ggX8_isPowerAtEnd_X8_sameBlocks : GoodIn wsX8_isPowerAtEnd wsX8_sameBlocks := goodIn_r _ [7, 8, 9, 10, 11, 12, 13, 6, 14, 15, 16, 17, 18, 19, 20, 21, 22, 23, 24, 25, 26, 27, 28, 29] rfl (by decide +kernel)
set_option maxRecDepth 20000 in
theorem gX8_isPowerAtEnd_X8_sameBlocks : GoodIn wsX8_isPowerAtEnd (wsV RX8 74 RX8 yX8_sameBlocks wsX8_sameBlocks) := goodIn_app (goodIn_r _ [3, 4, 5, 6] rfl (by decide +kernel)) ggX8_isPowerAtEnd_X8_sameBlocks
theorem dX8_isPowerAtEnd_0 : decode cX8_isPowerAtEnd 0 = .ok (.aload_n 0, 1) := by decide +kernel
theorem dX8_isPowerAtEnd_1 : decode cX8_isPowerAtEnd 1 = .ok (.getfield 31, 3) := by decide +kernel
theorem dX8_isPowerAtEnd_4 : decode cX8_isPowerAtEnd 4 = .ok (.aload_n 0, 1) := by decide +kernel
theorem dX8_isPowerAtEnd_5 : decode cX8_isPowerAtEnd 5 = .ok (.getfield 43, 3) := by decide +kernel
theorem dX8_isPowerAtEnd_8 : decode cX8_isPowerAtEnd 8 = .ok (.iload_n 1, 1) := by decide +kernel
theorem dX8_isPowerAtEnd_9 : decode cX8_isPowerAtEnd 9 = .ok (.imul, 1) := by decide +kernel
theorem dX8_isPowerAtEnd_10 : decode cX8_isPowerAtEnd 10 = .ok (.isub, 1) := by decide +kernel
theorem dX8_isPowerAtEnd_11 : decode cX8_isPowerAtEnd 11 = .ok (.istore_n 2, 1) := by decide +kernel
theorem dX8_isPowerAtEnd_12 : decode cX8_isPowerAtEnd 12 = .ok (.iconst 1, 1) := by decide +kernel
theorem dX8_isPowerAtEnd_13 : decode cX8_isPowerAtEnd 13 = .ok (.istore_n 3, 1) := by decide +kernel
theorem dX8_isPowerAtEnd_14 : decode cX8_isPowerAtEnd 14 = .ok (.iload_n 3, 1) := by decide +kernel
theorem dX8_isPowerAtEnd_15 : decode cX8_isPowerAtEnd 15 = .ok (.aload_n 0, 1) := by decide +kernel
theorem dX8_isPowerAtEnd_16 : decode cX8_isPowerAtEnd 16 = .ok (.getfield 43, 3) := by decide +kernel
theorem dX8_isPowerAtEnd_19 : decode cX8_isPowerAtEnd 19 = .ok (.if_icmp .ge 25, 3) := by decide +kernel
theorem dX8_isPowerAtEnd_22 : decode cX8_isPowerAtEnd 22 = .ok (.aload_n 0, 1) := by decide +kernel
theorem dX8_isPowerAtEnd_23 : decode cX8_isPowerAtEnd 23 = .ok (.iload_n 2, 1) := by decide +kernel
theorem dX8_isPowerAtEnd_24 : decode cX8_isPowerAtEnd 24 = .ok (.iload_n 2, 1) := by decide +kernel
theorem dX8_isPowerAtEnd_25 : decode cX8_isPowerAtEnd 25 = .ok (.iload_n 3, 1) := by decide +kernel
theorem dX8_isPowerAtEnd_26 : decode cX8_isPowerAtEnd 26 = .ok (.iload_n 1, 1) := by decide +kernel
theorem dX8_isPowerAtEnd_27 : decode cX8_isPowerAtEnd 27 = .ok (.imul, 1) := by decide +kernel
theorem dX8_isPowerAtEnd_28 : decode cX8_isPowerAtEnd 28 = .ok (.iadd, 1) := by decide +kernel
theorem dX8_isPowerAtEnd_29 : decode cX8_isPowerAtEnd 29 = .ok (.iload_n 1, 1) := by decide +kernel
theorem dX8_isPowerAtEnd_30 : decode cX8_isPowerAtEnd 30 = .ok (.invokevirtual 74, 3) := by decide +kernel
theorem dX8_isPowerAtEnd_33 : decode cX8_isPowerAtEnd 33 = .ok (.ifCond .ne 5, 3) := by decide +kernel
theorem dX8_isPowerAtEnd_36 : decode cX8_isPowerAtEnd 36 = .ok (.iconst 0, 1) := by decide +kernel
theorem dX8_isPowerAtEnd_37 : decode cX8_isPowerAtEnd 37 = .ok (.ireturn, 1) := by decide +kernel
theorem dX8_isPowerAtEnd_38 : decode cX8_isPowerAtEnd 38 = .ok (.iinc 3 1, 3) := by decide +kernel
theorem dX8_isPowerAtEnd_41 : decode cX8_isPowerAtEnd 41 = .ok (.goto (-27), 3) := by decide +kernel
theorem dX8_isPowerAtEnd_44 : decode cX8_isPowerAtEnd 44 = .ok (.iconst 1, 1) := by decide +kernel
theorem dX8_isPowerAtEnd_45 : decode cX8_isPowerAtEnd 45 = .ok (.ireturn, 1) := by decide +kernel
set_option maxRecDepth 20000 in
theorem ggX8_shortestPowerAtEnd_X8_isPowerAtEnd : GoodIn wsX8_shortestPowerAtEnd wsX8_isPowerAtEnd := goodIn_r _ [7, 1, 2, 8, 9, 10, 6, 11, 12, 13, 14, 15, 16, 17, 18, 19, 20, 21, 22, 23, 24, 25, 26, 27, 28, 29, 30, 31, 32, 33] rfl (by decide +kernel)
set_option maxRecDepth 20000 in
theorem gX8_shortestPowerAtEnd_X8_isPowerAtEnd : GoodIn wsX8_shortestPowerAtEnd (wsV RX8 77 RX8 yX8_isPowerAtEnd wsX8_isPowerAtEnd) := goodIn_app (goodIn_r _ [3, 4, 5, 6] rfl (by decide +kernel)) ggX8_shortestPowerAtEnd_X8_isPowerAtEnd
theorem dX8_shortestPowerAtEnd_0 : decode cX8_shortestPowerAtEnd 0 = .ok (.iconst 1, 1) := by decide +kernel
theorem dX8_shortestPowerAtEnd_1 : decode cX8_shortestPowerAtEnd 1 = .ok (.istore_n 1, 1) := by decide +kernel
theorem dX8_shortestPowerAtEnd_2 : decode cX8_shortestPowerAtEnd 2 = .ok (.iload_n 1, 1) := by decide +kernel
theorem dX8_shortestPowerAtEnd_3 : decode cX8_shortestPowerAtEnd 3 = .ok (.aload_n 0, 1) := by decide +kernel
theorem dX8_shortestPowerAtEnd_4 : decode cX8_shortestPowerAtEnd 4 = .ok (.getfield 31, 3) := by decide +kernel
theorem dX8_shortestPowerAtEnd_7 : decode cX8_shortestPowerAtEnd 7 = .ok (.if_icmp .gt 32, 3) := by decide +kernel
theorem dX8_shortestPowerAtEnd_10 : decode cX8_shortestPowerAtEnd 10 = .ok (.iload_n 1, 1) := by decide +kernel
theorem dX8_shortestPowerAtEnd_11 : decode cX8_shortestPowerAtEnd 11 = .ok (.aload_n 0, 1) := by decide +kernel
theorem dX8_shortestPowerAtEnd_12 : decode cX8_shortestPowerAtEnd 12 = .ok (.getfield 43, 3) := by decide +kernel
theorem dX8_shortestPowerAtEnd_15 : decode cX8_shortestPowerAtEnd 15 = .ok (.imul, 1) := by decide +kernel
theorem dX8_shortestPowerAtEnd_16 : decode cX8_shortestPowerAtEnd 16 = .ok (.aload_n 0, 1) := by decide +kernel
theorem dX8_shortestPowerAtEnd_17 : decode cX8_shortestPowerAtEnd 17 = .ok (.getfield 31, 3) := by decide +kernel
theorem dX8_shortestPowerAtEnd_20 : decode cX8_shortestPowerAtEnd 20 = .ok (.if_icmp .gt 19, 3) := by decide +kernel
theorem dX8_shortestPowerAtEnd_23 : decode cX8_shortestPowerAtEnd 23 = .ok (.aload_n 0, 1) := by decide +kernel
theorem dX8_shortestPowerAtEnd_24 : decode cX8_shortestPowerAtEnd 24 = .ok (.iload_n 1, 1) := by decide +kernel
theorem dX8_shortestPowerAtEnd_25 : decode cX8_shortestPowerAtEnd 25 = .ok (.invokevirtual 77, 3) := by decide +kernel
theorem dX8_shortestPowerAtEnd_28 : decode cX8_shortestPowerAtEnd 28 = .ok (.ifCond .eq 5, 3) := by decide +kernel
theorem dX8_shortestPowerAtEnd_31 : decode cX8_shortestPowerAtEnd 31 = .ok (.iload_n 1, 1) := by decide +kernel
theorem dX8_shortestPowerAtEnd_32 : decode cX8_shortestPowerAtEnd 32 = .ok (.ireturn, 1) := by decide +kernel
theorem dX8_shortestPowerAtEnd_33 : decode cX8_shortestPowerAtEnd 33 = .ok (.iinc 1 1, 3) := by decide +kernel
theorem dX8_shortestPowerAtEnd_36 : decode cX8_shortestPowerAtEnd 36 = .ok (.goto (-34), 3) := by decide +kernel
theorem dX8_shortestPowerAtEnd_39 : decode cX8_shortestPowerAtEnd 39 = .ok (.iconst 0, 1) := by decide +kernel
theorem dX8_shortestPowerAtEnd_40 : decode cX8_shortestPowerAtEnd 40 = .ok (.ireturn, 1) := by decide +kernel
set_option maxRecDepth 20000 in
theorem ggX8_powersAtEnd_X8_isPowerAtEnd : GoodIn wsX8_powersAtEnd wsX8_isPowerAtEnd := goodIn_r _ [7, 1, 2, 8, 9, 10, 6, 11, 12, 13, 14, 15, 16, 17, 18, 19, 20, 21, 22, 23, 24, 25, 26, 27, 28, 29, 30, 31, 32, 33] rfl (by decide +kernel)
set_option maxRecDepth 20000 in
theorem gX8_powersAtEnd_X8_isPowerAtEnd : GoodIn wsX8_powersAtEnd (wsV RX8 77 RX8 yX8_isPowerAtEnd wsX8_isPowerAtEnd) := goodIn_app (goodIn_r _ [3, 4, 5, 6] rfl (by decide +kernel)) ggX8_powersAtEnd_X8_isPowerAtEnd
theorem dX8_powersAtEnd_0 : decode cX8_powersAtEnd 0 = .ok (.iconst 0, 1) := by decide +kernel
theorem dX8_powersAtEnd_1 : decode cX8_powersAtEnd 1 = .ok (.istore_n 1, 1) := by decide +kernel
theorem dX8_powersAtEnd_2 : decode cX8_powersAtEnd 2 = .ok (.iconst 1, 1) := by decide +kernel
theorem dX8_powersAtEnd_3 : decode cX8_powersAtEnd 3 = .ok (.istore_n 2, 1) := by decide +kernel
theorem dX8_powersAtEnd_4 : decode cX8_powersAtEnd 4 = .ok (.iload_n 2, 1) := by decide +kernel
theorem dX8_powersAtEnd_5 : decode cX8_powersAtEnd 5 = .ok (.aload_n 0, 1) := by decide +kernel
theorem dX8_powersAtEnd_6 : decode cX8_powersAtEnd 6 = .ok (.getfield 31, 3) := by decide +kernel
theorem dX8_powersAtEnd_9 : decode cX8_powersAtEnd 9 = .ok (.if_icmp .gt 33, 3) := by decide +kernel
theorem dX8_powersAtEnd_12 : decode cX8_powersAtEnd 12 = .ok (.iload_n 2, 1) := by decide +kernel
theorem dX8_powersAtEnd_13 : decode cX8_powersAtEnd 13 = .ok (.aload_n 0, 1) := by decide +kernel
theorem dX8_powersAtEnd_14 : decode cX8_powersAtEnd 14 = .ok (.getfield 43, 3) := by decide +kernel
theorem dX8_powersAtEnd_17 : decode cX8_powersAtEnd 17 = .ok (.imul, 1) := by decide +kernel
theorem dX8_powersAtEnd_18 : decode cX8_powersAtEnd 18 = .ok (.aload_n 0, 1) := by decide +kernel
theorem dX8_powersAtEnd_19 : decode cX8_powersAtEnd 19 = .ok (.getfield 31, 3) := by decide +kernel
theorem dX8_powersAtEnd_22 : decode cX8_powersAtEnd 22 = .ok (.if_icmp .gt 20, 3) := by decide +kernel
theorem dX8_powersAtEnd_25 : decode cX8_powersAtEnd 25 = .ok (.aload_n 0, 1) := by decide +kernel
theorem dX8_powersAtEnd_26 : decode cX8_powersAtEnd 26 = .ok (.iload_n 2, 1) := by decide +kernel
theorem dX8_powersAtEnd_27 : decode cX8_powersAtEnd 27 = .ok (.invokevirtual 77, 3) := by decide +kernel
theorem dX8_powersAtEnd_30 : decode cX8_powersAtEnd 30 = .ok (.ifCond .eq 6, 3) := by decide +kernel
theorem dX8_powersAtEnd_33 : decode cX8_powersAtEnd 33 = .ok (.iinc 1 1, 3) := by decide +kernel
theorem dX8_powersAtEnd_36 : decode cX8_powersAtEnd 36 = .ok (.iinc 2 1, 3) := by decide +kernel
theorem dX8_powersAtEnd_39 : decode cX8_powersAtEnd 39 = .ok (.goto (-35), 3) := by decide +kernel
theorem dX8_powersAtEnd_42 : decode cX8_powersAtEnd 42 = .ok (.iload_n 1, 1) := by decide +kernel
theorem dX8_powersAtEnd_43 : decode cX8_powersAtEnd 43 = .ok (.ireturn, 1) := by decide +kernel
set_option maxRecDepth 20000 in
theorem ggX8_firstMatch_X8_hasEnd : GoodIn wsX8_firstMatch wsX8_hasEnd := goodIn_r _ [7, 1, 8, 33, 34, 35, 36, 37, 38, 39, 40, 41] rfl (by decide +kernel)
set_option maxRecDepth 20000 in
theorem gX8_firstMatch_X8_hasEnd : GoodIn wsX8_firstMatch (wsV RX8 86 RX8 yX8_hasEnd wsX8_hasEnd) := goodIn_app (goodIn_r _ [3, 4, 5, 6] rfl (by decide +kernel)) ggX8_firstMatch_X8_hasEnd
set_option maxRecDepth 20000 in
theorem ggX8_firstMatch_X8_matchAt : GoodIn wsX8_firstMatch wsX8_matchAt := goodIn_r _ [12, 2, 13, 14, 15, 16, 1, 17, 18, 19, 20, 21, 22, 23, 24, 25, 26, 3, 4, 5, 6, 7, 8, 27, 28, 29, 30, 31, 32, 42, 43, 33, 34, 35, 36, 37, 38, 39, 40, 41] rfl (by decide +kernel)
set_option maxRecDepth 20000 in
theorem gX8_firstMatch_X8_matchAt : GoodIn wsX8_firstMatch (wsV RX8 90 RX8 yX8_matchAt wsX8_matchAt) := goodIn_app (goodIn_r _ [9, 10, 11, 6] rfl (by decide +kernel)) ggX8_firstMatch_X8_matchAt
theorem dX8_firstMatch_0 : decode cX8_firstMatch 0 = .ok (.iconst 0, 1) := by decide +kernel
theorem dX8_firstMatch_1 : decode cX8_firstMatch 1 = .ok (.istore_n 2, 1) := by decide +kernel
theorem dX8_firstMatch_2 : decode cX8_firstMatch 2 = .ok (.iload_n 2, 1) := by decide +kernel
theorem dX8_firstMatch_3 : decode cX8_firstMatch 3 = .ok (.aload_n 0, 1) := by decide +kernel
theorem dX8_firstMatch_4 : decode cX8_firstMatch 4 = .ok (.getfield 31, 3) := by decide +kernel
theorem dX8_firstMatch_7 : decode cX8_firstMatch 7 = .ok (.if_icmp .ge 43, 3) := by decide +kernel
theorem dX8_firstMatch_10 : decode cX8_firstMatch 10 = .ok (.aload_n 0, 1) := by decide +kernel
theorem dX8_firstMatch_11 : decode cX8_firstMatch 11 = .ok (.aload_n 1, 1) := by decide +kernel
theorem dX8_firstMatch_12 : decode cX8_firstMatch 12 = .ok (.getfield 81, 3) := by decide +kernel
theorem dX8_firstMatch_15 : decode cX8_firstMatch 15 = .ok (.iconst 0, 1) := by decide +kernel
theorem dX8_firstMatch_16 : decode cX8_firstMatch 16 = .ok (.iaload, 1) := by decide +kernel
theorem dX8_firstMatch_17 : decode cX8_firstMatch 17 = .ok (.iload_n 2, 1) := by decide +kernel
theorem dX8_firstMatch_18 : decode cX8_firstMatch 18 = .ok (.invokevirtual 86, 3) := by decide +kernel
theorem dX8_firstMatch_21 : decode cX8_firstMatch 21 = .ok (.ifCond .eq 12, 3) := by decide +kernel
theorem dX8_firstMatch_24 : decode cX8_firstMatch 24 = .ok (.aload_n 0, 1) := by decide +kernel
theorem dX8_firstMatch_25 : decode cX8_firstMatch 25 = .ok (.aload_n 1, 1) := by decide +kernel
theorem dX8_firstMatch_26 : decode cX8_firstMatch 26 = .ok (.iload_n 2, 1) := by decide +kernel
theorem dX8_firstMatch_27 : decode cX8_firstMatch 27 = .ok (.invokevirtual 90, 3) := by decide +kernel
theorem dX8_firstMatch_30 : decode cX8_firstMatch 30 = .ok (.goto 5, 3) := by decide +kernel
theorem dX8_firstMatch_33 : decode cX8_firstMatch 33 = .ok (.bipush (-2), 2) := by decide +kernel
theorem dX8_firstMatch_35 : decode cX8_firstMatch 35 = .ok (.istore_n 3, 1) := by decide +kernel
theorem dX8_firstMatch_36 : decode cX8_firstMatch 36 = .ok (.iload_n 3, 1) := by decide +kernel
theorem dX8_firstMatch_37 : decode cX8_firstMatch 37 = .ok (.bipush (-2), 2) := by decide +kernel
theorem dX8_firstMatch_39 : decode cX8_firstMatch 39 = .ok (.if_icmp .eq 5, 3) := by decide +kernel
theorem dX8_firstMatch_42 : decode cX8_firstMatch 42 = .ok (.iload_n 3, 1) := by decide +kernel
theorem dX8_firstMatch_43 : decode cX8_firstMatch 43 = .ok (.ireturn, 1) := by decide +kernel
theorem dX8_firstMatch_44 : decode cX8_firstMatch 44 = .ok (.iinc 2 1, 3) := by decide +kernel
theorem dX8_firstMatch_47 : decode cX8_firstMatch 47 = .ok (.goto (-45), 3) := by decide +kernel
theorem dX8_firstMatch_50 : decode cX8_firstMatch 50 = .ok (.bipush (-2), 2) := by decide +kernel
theorem dX8_firstMatch_52 : decode cX8_firstMatch 52 = .ok (.ireturn, 1) := by decide +kernel
set_option maxRecDepth 20000 in
theorem ggX8_matchAt_X7_width : GoodIn wsX8_matchAt wsX7_width := goodIn_r _ [11] rfl (by decide +kernel)
set_option maxRecDepth 20000 in
theorem gX8_matchAt_X7_width : GoodIn wsX8_matchAt (va_wsS RX8 94 yX7_width wsX7_width) := goodIn_app (goodIn_r _ [8, 9, 10] rfl (by decide +kernel)) ggX8_matchAt_X7_width
set_option maxRecDepth 20000 in
theorem ggX8_matchAt_X7_lengthDifference : GoodIn wsX8_matchAt wsX7_lengthDifference := goodIn_r _ [15, 16, 29, 30] rfl (by decide +kernel)
set_option maxRecDepth 20000 in
theorem gX8_matchAt_X7_lengthDifference : GoodIn wsX8_matchAt (wsV RX8 98 RX7 yX7_lengthDifference wsX7_lengthDifference) := goodIn_app (goodIn_r _ [12, 13, 14, 10] rfl (by decide +kernel)) ggX8_matchAt_X7_lengthDifference
set_option maxRecDepth 20000 in
theorem ggX8_matchAt_X8_hasEnd : GoodIn wsX8_matchAt wsX8_hasEnd := goodIn_r _ [21, 6, 22, 31, 32, 33, 34, 35, 36, 37, 38, 39] rfl (by decide +kernel)
set_option maxRecDepth 20000 in
theorem gX8_matchAt_X8_hasEnd : GoodIn wsX8_matchAt (wsV RX8 86 RX8 yX8_hasEnd wsX8_hasEnd) := goodIn_app (goodIn_r _ [17, 18, 19, 20] rfl (by decide +kernel)) ggX8_matchAt_X8_hasEnd
set_option maxRecDepth 20000 in
theorem ggX8_matchAt_X8_sumOf : GoodIn wsX8_matchAt wsX8_sumOf := goodIn_r _ [26, 27, 28, 29, 30, 31, 32, 33, 34, 35, 36, 37, 38, 39] rfl (by decide +kernel)
set_option maxRecDepth 20000 in
theorem gX8_matchAt_X8_sumOf : GoodIn wsX8_matchAt (wsV RX8 102 RX8 yX8_sumOf wsX8_sumOf) := goodIn_app (goodIn_r _ [23, 24, 25, 20] rfl (by decide +kernel)) ggX8_matchAt_X8_sumOf
theorem dX8_matchAt_0 : decode cX8_matchAt 0 = .ok (.iload_n 2, 1) := by decide +kernel
theorem dX8_matchAt_1 : decode cX8_matchAt 1 = .ok (.aload_n 1, 1) := by decide +kernel
theorem dX8_matchAt_2 : decode cX8_matchAt 2 = .ok (.getfield 81, 3) := by decide +kernel
theorem dX8_matchAt_5 : decode cX8_matchAt 5 = .ok (.iconst 0, 1) := by decide +kernel
theorem dX8_matchAt_6 : decode cX8_matchAt 6 = .ok (.iaload, 1) := by decide +kernel
theorem dX8_matchAt_7 : decode cX8_matchAt 7 = .ok (.invokestatic 94, 3) := by decide +kernel
theorem dX8_matchAt_10 : decode cX8_matchAt 10 = .ok (.iadd, 1) := by decide +kernel
theorem dX8_matchAt_11 : decode cX8_matchAt 11 = .ok (.istore_n 3, 1) := by decide +kernel
theorem dX8_matchAt_12 : decode cX8_matchAt 12 = .ok (.aload_n 1, 1) := by decide +kernel
theorem dX8_matchAt_13 : decode cX8_matchAt 13 = .ok (.invokevirtual 98, 3) := by decide +kernel
theorem dX8_matchAt_16 : decode cX8_matchAt 16 = .ok (.istore 4, 2) := by decide +kernel
theorem dX8_matchAt_18 : decode cX8_matchAt 18 = .ok (.iconst 0, 1) := by decide +kernel
theorem dX8_matchAt_19 : decode cX8_matchAt 19 = .ok (.iload 4, 2) := by decide +kernel
theorem dX8_matchAt_21 : decode cX8_matchAt 21 = .ok (.ineg, 1) := by decide +kernel
theorem dX8_matchAt_22 : decode cX8_matchAt 22 = .ok (.invokestatic 47, 3) := by decide +kernel
theorem dX8_matchAt_25 : decode cX8_matchAt 25 = .ok (.istore 5, 2) := by decide +kernel
theorem dX8_matchAt_27 : decode cX8_matchAt 27 = .ok (.iload_n 3, 1) := by decide +kernel
theorem dX8_matchAt_28 : decode cX8_matchAt 28 = .ok (.iload 5, 2) := by decide +kernel
theorem dX8_matchAt_30 : decode cX8_matchAt 30 = .ok (.iadd, 1) := by decide +kernel
theorem dX8_matchAt_31 : decode cX8_matchAt 31 = .ok (.aload_n 0, 1) := by decide +kernel
theorem dX8_matchAt_32 : decode cX8_matchAt 32 = .ok (.getfield 31, 3) := by decide +kernel
theorem dX8_matchAt_35 : decode cX8_matchAt 35 = .ok (.if_icmp .gt 142, 3) := by decide +kernel
theorem dX8_matchAt_38 : decode cX8_matchAt 38 = .ok (.iload_n 3, 1) := by decide +kernel
theorem dX8_matchAt_39 : decode cX8_matchAt 39 = .ok (.iload 5, 2) := by decide +kernel
theorem dX8_matchAt_41 : decode cX8_matchAt 41 = .ok (.iadd, 1) := by decide +kernel
theorem dX8_matchAt_42 : decode cX8_matchAt 42 = .ok (.istore 6, 2) := by decide +kernel
theorem dX8_matchAt_44 : decode cX8_matchAt 44 = .ok (.iload 6, 2) := by decide +kernel
theorem dX8_matchAt_46 : decode cX8_matchAt 46 = .ok (.aload_n 1, 1) := by decide +kernel
theorem dX8_matchAt_47 : decode cX8_matchAt 47 = .ok (.getfield 81, 3) := by decide +kernel
theorem dX8_matchAt_50 : decode cX8_matchAt 50 = .ok (.iconst 1, 1) := by decide +kernel
theorem dX8_matchAt_51 : decode cX8_matchAt 51 = .ok (.iaload, 1) := by decide +kernel
theorem dX8_matchAt_52 : decode cX8_matchAt 52 = .ok (.invokestatic 94, 3) := by decide +kernel
theorem dX8_matchAt_55 : decode cX8_matchAt 55 = .ok (.iadd, 1) := by decide +kernel
theorem dX8_matchAt_56 : decode cX8_matchAt 56 = .ok (.istore 7, 2) := by decide +kernel
theorem dX8_matchAt_58 : decode cX8_matchAt 58 = .ok (.iload 7, 2) := by decide +kernel
theorem dX8_matchAt_60 : decode cX8_matchAt 60 = .ok (.iload 5, 2) := by decide +kernel
theorem dX8_matchAt_62 : decode cX8_matchAt 62 = .ok (.iadd, 1) := by decide +kernel
theorem dX8_matchAt_63 : decode cX8_matchAt 63 = .ok (.iload 4, 2) := by decide +kernel
theorem dX8_matchAt_65 : decode cX8_matchAt 65 = .ok (.iadd, 1) := by decide +kernel
theorem dX8_matchAt_66 : decode cX8_matchAt 66 = .ok (.istore 8, 2) := by decide +kernel
theorem dX8_matchAt_68 : decode cX8_matchAt 68 = .ok (.aload_n 0, 1) := by decide +kernel
theorem dX8_matchAt_69 : decode cX8_matchAt 69 = .ok (.aload_n 1, 1) := by decide +kernel
theorem dX8_matchAt_70 : decode cX8_matchAt 70 = .ok (.getfield 81, 3) := by decide +kernel
theorem dX8_matchAt_73 : decode cX8_matchAt 73 = .ok (.iconst 1, 1) := by decide +kernel
theorem dX8_matchAt_74 : decode cX8_matchAt 74 = .ok (.iaload, 1) := by decide +kernel
theorem dX8_matchAt_75 : decode cX8_matchAt 75 = .ok (.iload 6, 2) := by decide +kernel
theorem dX8_matchAt_77 : decode cX8_matchAt 77 = .ok (.invokevirtual 86, 3) := by decide +kernel
theorem dX8_matchAt_80 : decode cX8_matchAt 80 = .ok (.ifCond .eq 91, 3) := by decide +kernel
theorem dX8_matchAt_83 : decode cX8_matchAt 83 = .ok (.aload_n 0, 1) := by decide +kernel
theorem dX8_matchAt_84 : decode cX8_matchAt 84 = .ok (.aload_n 1, 1) := by decide +kernel
theorem dX8_matchAt_85 : decode cX8_matchAt 85 = .ok (.getfield 81, 3) := by decide +kernel
theorem dX8_matchAt_88 : decode cX8_matchAt 88 = .ok (.iconst 2, 1) := by decide +kernel
theorem dX8_matchAt_89 : decode cX8_matchAt 89 = .ok (.iaload, 1) := by decide +kernel
theorem dX8_matchAt_90 : decode cX8_matchAt 90 = .ok (.iload 8, 2) := by decide +kernel
theorem dX8_matchAt_92 : decode cX8_matchAt 92 = .ok (.invokevirtual 86, 3) := by decide +kernel
theorem dX8_matchAt_95 : decode cX8_matchAt 95 = .ok (.ifCond .eq 76, 3) := by decide +kernel
theorem dX8_matchAt_98 : decode cX8_matchAt 98 = .ok (.iload 8, 2) := by decide +kernel
theorem dX8_matchAt_100 : decode cX8_matchAt 100 = .ok (.aload_n 1, 1) := by decide +kernel
theorem dX8_matchAt_101 : decode cX8_matchAt 101 = .ok (.getfield 81, 3) := by decide +kernel
theorem dX8_matchAt_104 : decode cX8_matchAt 104 = .ok (.iconst 2, 1) := by decide +kernel
theorem dX8_matchAt_105 : decode cX8_matchAt 105 = .ok (.iaload, 1) := by decide +kernel
theorem dX8_matchAt_106 : decode cX8_matchAt 106 = .ok (.invokestatic 94, 3) := by decide +kernel
theorem dX8_matchAt_109 : decode cX8_matchAt 109 = .ok (.iadd, 1) := by decide +kernel
theorem dX8_matchAt_110 : decode cX8_matchAt 110 = .ok (.iload_n 2, 1) := by decide +kernel
theorem dX8_matchAt_111 : decode cX8_matchAt 111 = .ok (.if_icmp .le 60, 3) := by decide +kernel
theorem dX8_matchAt_114 : decode cX8_matchAt 114 = .ok (.aload_n 0, 1) := by decide +kernel
theorem dX8_matchAt_115 : decode cX8_matchAt 115 = .ok (.getfield 18, 3) := by decide +kernel
theorem dX8_matchAt_118 : decode cX8_matchAt 118 = .ok (.iload 8, 2) := by decide +kernel
theorem dX8_matchAt_120 : decode cX8_matchAt 120 = .ok (.laload, 1) := by decide +kernel
theorem dX8_matchAt_121 : decode cX8_matchAt 121 = .ok (.aload_n 0, 1) := by decide +kernel
theorem dX8_matchAt_122 : decode cX8_matchAt 122 = .ok (.getfield 18, 3) := by decide +kernel
theorem dX8_matchAt_125 : decode cX8_matchAt 125 = .ok (.iload 7, 2) := by decide +kernel
theorem dX8_matchAt_127 : decode cX8_matchAt 127 = .ok (.laload, 1) := by decide +kernel
theorem dX8_matchAt_128 : decode cX8_matchAt 128 = .ok (.lsub, 1) := by decide +kernel
theorem dX8_matchAt_129 : decode cX8_matchAt 129 = .ok (.aload_n 0, 1) := by decide +kernel
theorem dX8_matchAt_130 : decode cX8_matchAt 130 = .ok (.getfield 18, 3) := by decide +kernel
theorem dX8_matchAt_133 : decode cX8_matchAt 133 = .ok (.iload 6, 2) := by decide +kernel
theorem dX8_matchAt_135 : decode cX8_matchAt 135 = .ok (.laload, 1) := by decide +kernel
theorem dX8_matchAt_136 : decode cX8_matchAt 136 = .ok (.aload_n 0, 1) := by decide +kernel
theorem dX8_matchAt_137 : decode cX8_matchAt 137 = .ok (.getfield 18, 3) := by decide +kernel
theorem dX8_matchAt_140 : decode cX8_matchAt 140 = .ok (.iload_n 3, 1) := by decide +kernel
theorem dX8_matchAt_141 : decode cX8_matchAt 141 = .ok (.laload, 1) := by decide +kernel
theorem dX8_matchAt_142 : decode cX8_matchAt 142 = .ok (.lsub, 1) := by decide +kernel
theorem dX8_matchAt_143 : decode cX8_matchAt 143 = .ok (.lsub, 1) := by decide +kernel
theorem dX8_matchAt_144 : decode cX8_matchAt 144 = .ok (.aload_n 0, 1) := by decide +kernel
theorem dX8_matchAt_145 : decode cX8_matchAt 145 = .ok (.aload_n 1, 1) := by decide +kernel
theorem dX8_matchAt_146 : decode cX8_matchAt 146 = .ok (.invokevirtual 102, 3) := by decide +kernel
theorem dX8_matchAt_149 : decode cX8_matchAt 149 = .ok (.lcmp, 1) := by decide +kernel
theorem dX8_matchAt_150 : decode cX8_matchAt 150 = .ok (.ifCond .ne 21, 3) := by decide +kernel
theorem dX8_matchAt_153 : decode cX8_matchAt 153 = .ok (.sipush 10000, 3) := by decide +kernel
theorem dX8_matchAt_156 : decode cX8_matchAt 156 = .ok (.iload_n 2, 1) := by decide +kernel
theorem dX8_matchAt_157 : decode cX8_matchAt 157 = .ok (.imul, 1) := by decide +kernel
theorem dX8_matchAt_158 : decode cX8_matchAt 158 = .ok (.bipush 100, 2) := by decide +kernel
theorem dX8_matchAt_160 : decode cX8_matchAt 160 = .ok (.iload 5, 2) := by decide +kernel
theorem dX8_matchAt_162 : decode cX8_matchAt 162 = .ok (.imul, 1) := by decide +kernel
theorem dX8_matchAt_163 : decode cX8_matchAt 163 = .ok (.iadd, 1) := by decide +kernel
theorem dX8_matchAt_164 : decode cX8_matchAt 164 = .ok (.iload 5, 2) := by decide +kernel
theorem dX8_matchAt_166 : decode cX8_matchAt 166 = .ok (.iadd, 1) := by decide +kernel
theorem dX8_matchAt_167 : decode cX8_matchAt 167 = .ok (.iload 4, 2) := by decide +kernel
theorem dX8_matchAt_169 : decode cX8_matchAt 169 = .ok (.iadd, 1) := by decide +kernel
theorem dX8_matchAt_170 : decode cX8_matchAt 170 = .ok (.ireturn, 1) := by decide +kernel
theorem dX8_matchAt_171 : decode cX8_matchAt 171 = .ok (.iinc 5 1, 3) := by decide +kernel
theorem dX8_matchAt_174 : decode cX8_matchAt 174 = .ok (.goto (-147), 3) := by decide +kernel
theorem dX8_matchAt_177 : decode cX8_matchAt 177 = .ok (.bipush (-2), 2) := by decide +kernel
theorem dX8_matchAt_179 : decode cX8_matchAt 179 = .ok (.ireturn, 1) := by decide +kernel
theorem dX8_hasEnd_0 : decode cX8_hasEnd 0 = .ok (.iload_n 1, 1) := by decide +kernel
theorem dX8_hasEnd_1 : decode cX8_hasEnd 1 = .ok (.iconst (-1), 1) := by decide +kernel
theorem dX8_hasEnd_2 : decode cX8_hasEnd 2 = .ok (.if_icmp .ne 19, 3) := by decide +kernel
theorem dX8_hasEnd_5 : decode cX8_hasEnd 5 = .ok (.iload_n 2, 1) := by decide +kernel
theorem dX8_hasEnd_6 : decode cX8_hasEnd 6 = .ok (.aload_n 0, 1) := by decide +kernel
theorem dX8_hasEnd_7 : decode cX8_hasEnd 7 = .ok (.getfield 31, 3) := by decide +kernel
theorem dX8_hasEnd_10 : decode cX8_hasEnd 10 = .ok (.if_icmp .gt 7, 3) := by decide +kernel
theorem dX8_hasEnd_13 : decode cX8_hasEnd 13 = .ok (.iconst 1, 1) := by decide +kernel
theorem dX8_hasEnd_14 : decode cX8_hasEnd 14 = .ok (.goto 30, 3) := by decide +kernel
theorem dX8_hasEnd_17 : decode cX8_hasEnd 17 = .ok (.iconst 0, 1) := by decide +kernel
theorem dX8_hasEnd_18 : decode cX8_hasEnd 18 = .ok (.goto 26, 3) := by decide +kernel
theorem dX8_hasEnd_21 : decode cX8_hasEnd 21 = .ok (.iload_n 2, 1) := by decide +kernel
theorem dX8_hasEnd_22 : decode cX8_hasEnd 22 = .ok (.aload_n 0, 1) := by decide +kernel
theorem dX8_hasEnd_23 : decode cX8_hasEnd 23 = .ok (.getfield 31, 3) := by decide +kernel
theorem dX8_hasEnd_26 : decode cX8_hasEnd 26 = .ok (.if_icmp .ge 17, 3) := by decide +kernel
theorem dX8_hasEnd_29 : decode cX8_hasEnd 29 = .ok (.aload_n 0, 1) := by decide +kernel
theorem dX8_hasEnd_30 : decode cX8_hasEnd 30 = .ok (.getfield 9, 3) := by decide +kernel
theorem dX8_hasEnd_33 : decode cX8_hasEnd 33 = .ok (.iload_n 2, 1) := by decide +kernel
theorem dX8_hasEnd_34 : decode cX8_hasEnd 34 = .ok (.iaload, 1) := by decide +kernel
theorem dX8_hasEnd_35 : decode cX8_hasEnd 35 = .ok (.iload_n 1, 1) := by decide +kernel
theorem dX8_hasEnd_36 : decode cX8_hasEnd 36 = .ok (.if_icmp .ne 7, 3) := by decide +kernel
theorem dX8_hasEnd_39 : decode cX8_hasEnd 39 = .ok (.iconst 1, 1) := by decide +kernel
theorem dX8_hasEnd_40 : decode cX8_hasEnd 40 = .ok (.goto 4, 3) := by decide +kernel
theorem dX8_hasEnd_43 : decode cX8_hasEnd 43 = .ok (.iconst 0, 1) := by decide +kernel
theorem dX8_hasEnd_44 : decode cX8_hasEnd 44 = .ok (.ireturn, 1) := by decide +kernel
theorem dX8_sumOf_0 : decode cX8_sumOf 0 = .ok (.lconst 0, 1) := by decide +kernel
theorem dX8_sumOf_1 : decode cX8_sumOf 1 = .ok (.lstore_n 2, 1) := by decide +kernel
theorem dX8_sumOf_2 : decode cX8_sumOf 2 = .ok (.iconst 0, 1) := by decide +kernel
theorem dX8_sumOf_3 : decode cX8_sumOf 3 = .ok (.istore 4, 2) := by decide +kernel
theorem dX8_sumOf_5 : decode cX8_sumOf 5 = .ok (.iload 4, 2) := by decide +kernel
theorem dX8_sumOf_7 : decode cX8_sumOf 7 = .ok (.iconst 4, 1) := by decide +kernel
theorem dX8_sumOf_8 : decode cX8_sumOf 8 = .ok (.if_icmp .ge 28, 3) := by decide +kernel
theorem dX8_sumOf_11 : decode cX8_sumOf 11 = .ok (.lload_n 2, 1) := by decide +kernel
theorem dX8_sumOf_12 : decode cX8_sumOf 12 = .ok (.aload_n 1, 1) := by decide +kernel
theorem dX8_sumOf_13 : decode cX8_sumOf 13 = .ok (.getfield 106, 3) := by decide +kernel
theorem dX8_sumOf_16 : decode cX8_sumOf 16 = .ok (.iload 4, 2) := by decide +kernel
theorem dX8_sumOf_18 : decode cX8_sumOf 18 = .ok (.iaload, 1) := by decide +kernel
theorem dX8_sumOf_19 : decode cX8_sumOf 19 = .ok (.i2l, 1) := by decide +kernel
theorem dX8_sumOf_20 : decode cX8_sumOf 20 = .ok (.aload_n 0, 1) := by decide +kernel
theorem dX8_sumOf_21 : decode cX8_sumOf 21 = .ok (.getfield 28, 3) := by decide +kernel
theorem dX8_sumOf_24 : decode cX8_sumOf 24 = .ok (.iload 4, 2) := by decide +kernel
theorem dX8_sumOf_26 : decode cX8_sumOf 26 = .ok (.laload, 1) := by decide +kernel
theorem dX8_sumOf_27 : decode cX8_sumOf 27 = .ok (.lmul, 1) := by decide +kernel
theorem dX8_sumOf_28 : decode cX8_sumOf 28 = .ok (.ladd, 1) := by decide +kernel
theorem dX8_sumOf_29 : decode cX8_sumOf 29 = .ok (.lstore_n 2, 1) := by decide +kernel
theorem dX8_sumOf_30 : decode cX8_sumOf 30 = .ok (.iinc 4 1, 3) := by decide +kernel
theorem dX8_sumOf_33 : decode cX8_sumOf 33 = .ok (.goto (-28), 3) := by decide +kernel
theorem dX8_sumOf_36 : decode cX8_sumOf 36 = .ok (.lload_n 2, 1) := by decide +kernel
theorem dX8_sumOf_37 : decode cX8_sumOf 37 = .ok (.lreturn, 1) := by decide +kernel
theorem dX9_init_0 : decode cX9_init 0 = .ok (.aload_n 0, 1) := by decide +kernel
theorem dX9_init_1 : decode cX9_init 1 = .ok (.invokespecial 1, 3) := by decide +kernel
theorem dX9_init_4 : decode cX9_init 4 = .ok (.aload_n 0, 1) := by decide +kernel
theorem dX9_init_5 : decode cX9_init 5 = .ok (.iload_n 1, 1) := by decide +kernel
theorem dX9_init_6 : decode cX9_init 6 = .ok (.iconst 0, 1) := by decide +kernel
theorem dX9_init_7 : decode cX9_init 7 = .ok (.invokestatic 7, 3) := by decide +kernel
theorem dX9_init_10 : decode cX9_init 10 = .ok (.newarray .int, 2) := by decide +kernel
theorem dX9_init_12 : decode cX9_init 12 = .ok (.putfield 13, 3) := by decide +kernel
theorem dX9_init_15 : decode cX9_init 15 = .ok (.return_, 1) := by decide +kernel
theorem dX9_put_0 : decode cX9_put 0 = .ok (.aload_n 0, 1) := by decide +kernel
theorem dX9_put_1 : decode cX9_put 1 = .ok (.getfield 19, 3) := by decide +kernel
theorem dX9_put_4 : decode cX9_put 4 = .ok (.aload_n 0, 1) := by decide +kernel
theorem dX9_put_5 : decode cX9_put 5 = .ok (.getfield 13, 3) := by decide +kernel
theorem dX9_put_8 : decode cX9_put 8 = .ok (.arraylength, 1) := by decide +kernel
theorem dX9_put_9 : decode cX9_put 9 = .ok (.if_icmp .ge 23, 3) := by decide +kernel
theorem dX9_put_12 : decode cX9_put 12 = .ok (.aload_n 0, 1) := by decide +kernel
theorem dX9_put_13 : decode cX9_put 13 = .ok (.getfield 13, 3) := by decide +kernel
theorem dX9_put_16 : decode cX9_put 16 = .ok (.aload_n 0, 1) := by decide +kernel
theorem dX9_put_17 : decode cX9_put 17 = .ok (.getfield 19, 3) := by decide +kernel
theorem dX9_put_20 : decode cX9_put 20 = .ok (.iload_n 1, 1) := by decide +kernel
theorem dX9_put_21 : decode cX9_put 21 = .ok (.iastore, 1) := by decide +kernel
theorem dX9_put_22 : decode cX9_put 22 = .ok (.aload_n 0, 1) := by decide +kernel
theorem dX9_put_23 : decode cX9_put 23 = .ok (.dup, 1) := by decide +kernel
theorem dX9_put_24 : decode cX9_put 24 = .ok (.getfield 19, 3) := by decide +kernel
theorem dX9_put_27 : decode cX9_put 27 = .ok (.iconst 1, 1) := by decide +kernel
theorem dX9_put_28 : decode cX9_put 28 = .ok (.iadd, 1) := by decide +kernel
theorem dX9_put_29 : decode cX9_put 29 = .ok (.putfield 19, 3) := by decide +kernel
theorem dX9_put_32 : decode cX9_put 32 = .ok (.return_, 1) := by decide +kernel
set_option maxRecDepth 20000 in
theorem ggX9_putAll_X9_put : GoodIn wsX9_putAll wsX9_put := goodIn_r _ [7, 1, 2, 8, 9] rfl (by decide +kernel)
set_option maxRecDepth 20000 in
theorem gX9_putAll_X9_put : GoodIn wsX9_putAll (wsV RX9 23 RX9 yX9_put wsX9_put) := goodIn_app (goodIn_r _ [3, 4, 5, 6] rfl (by decide +kernel)) ggX9_putAll_X9_put
theorem dX9_putAll_0 : decode cX9_putAll 0 = .ok (.iconst 0, 1) := by decide +kernel
theorem dX9_putAll_1 : decode cX9_putAll 1 = .ok (.istore_n 2, 1) := by decide +kernel
theorem dX9_putAll_2 : decode cX9_putAll 2 = .ok (.iload_n 2, 1) := by decide +kernel
theorem dX9_putAll_3 : decode cX9_putAll 3 = .ok (.aload_n 1, 1) := by decide +kernel
theorem dX9_putAll_4 : decode cX9_putAll 4 = .ok (.getfield 19, 3) := by decide +kernel
theorem dX9_putAll_7 : decode cX9_putAll 7 = .ok (.if_icmp .ge 19, 3) := by decide +kernel
theorem dX9_putAll_10 : decode cX9_putAll 10 = .ok (.aload_n 0, 1) := by decide +kernel
theorem dX9_putAll_11 : decode cX9_putAll 11 = .ok (.aload_n 1, 1) := by decide +kernel
theorem dX9_putAll_12 : decode cX9_putAll 12 = .ok (.getfield 13, 3) := by decide +kernel
theorem dX9_putAll_15 : decode cX9_putAll 15 = .ok (.iload_n 2, 1) := by decide +kernel
theorem dX9_putAll_16 : decode cX9_putAll 16 = .ok (.iaload, 1) := by decide +kernel
theorem dX9_putAll_17 : decode cX9_putAll 17 = .ok (.invokevirtual 23, 3) := by decide +kernel
theorem dX9_putAll_20 : decode cX9_putAll 20 = .ok (.iinc 2 1, 3) := by decide +kernel
theorem dX9_putAll_23 : decode cX9_putAll 23 = .ok (.goto (-21), 3) := by decide +kernel
theorem dX9_putAll_26 : decode cX9_putAll 26 = .ok (.return_, 1) := by decide +kernel
set_option maxRecDepth 20000 in
theorem ggX9_copyFrom_X9_putAll : GoodIn wsX9_copyFrom wsX9_putAll := goodIn_r _ [6, 1, 7, 8, 9, 10, 5, 11, 12, 13] rfl (by decide +kernel)
set_option maxRecDepth 20000 in
theorem gX9_copyFrom_X9_putAll : GoodIn wsX9_copyFrom (wsV RX9 27 RX9 yX9_putAll wsX9_putAll) := goodIn_app (goodIn_r _ [2, 3, 4, 5] rfl (by decide +kernel)) ggX9_copyFrom_X9_putAll
theorem dX9_copyFrom_0 : decode cX9_copyFrom 0 = .ok (.aload_n 0, 1) := by decide +kernel
theorem dX9_copyFrom_1 : decode cX9_copyFrom 1 = .ok (.iconst 0, 1) := by decide +kernel
theorem dX9_copyFrom_2 : decode cX9_copyFrom 2 = .ok (.putfield 19, 3) := by decide +kernel
theorem dX9_copyFrom_5 : decode cX9_copyFrom 5 = .ok (.aload_n 0, 1) := by decide +kernel
theorem dX9_copyFrom_6 : decode cX9_copyFrom 6 = .ok (.aload_n 1, 1) := by decide +kernel
theorem dX9_copyFrom_7 : decode cX9_copyFrom 7 = .ok (.invokevirtual 27, 3) := by decide +kernel
theorem dX9_copyFrom_10 : decode cX9_copyFrom 10 = .ok (.return_, 1) := by decide +kernel
theorem dX9_hasBlock_0 : decode cX9_hasBlock 0 = .ok (.iload_n 1, 1) := by decide +kernel
theorem dX9_hasBlock_1 : decode cX9_hasBlock 1 = .ok (.ifCond .lt 29, 3) := by decide +kernel
theorem dX9_hasBlock_4 : decode cX9_hasBlock 4 = .ok (.iload_n 1, 1) := by decide +kernel
theorem dX9_hasBlock_5 : decode cX9_hasBlock 5 = .ok (.aload_n 0, 1) := by decide +kernel
theorem dX9_hasBlock_6 : decode cX9_hasBlock 6 = .ok (.getfield 19, 3) := by decide +kernel
theorem dX9_hasBlock_9 : decode cX9_hasBlock 9 = .ok (.if_icmp .gt 21, 3) := by decide +kernel
theorem dX9_hasBlock_12 : decode cX9_hasBlock 12 = .ok (.iload_n 2, 1) := by decide +kernel
theorem dX9_hasBlock_13 : decode cX9_hasBlock 13 = .ok (.ifCond .lt 17, 3) := by decide +kernel
theorem dX9_hasBlock_16 : decode cX9_hasBlock 16 = .ok (.iload_n 2, 1) := by decide +kernel
theorem dX9_hasBlock_17 : decode cX9_hasBlock 17 = .ok (.aload_n 0, 1) := by decide +kernel
theorem dX9_hasBlock_18 : decode cX9_hasBlock 18 = .ok (.getfield 19, 3) := by decide +kernel
theorem dX9_hasBlock_21 : decode cX9_hasBlock 21 = .ok (.iload_n 1, 1) := by decide +kernel
theorem dX9_hasBlock_22 : decode cX9_hasBlock 22 = .ok (.isub, 1) := by decide +kernel
theorem dX9_hasBlock_23 : decode cX9_hasBlock 23 = .ok (.if_icmp .gt 7, 3) := by decide +kernel
theorem dX9_hasBlock_26 : decode cX9_hasBlock 26 = .ok (.iconst 1, 1) := by decide +kernel
theorem dX9_hasBlock_27 : decode cX9_hasBlock 27 = .ok (.goto 4, 3) := by decide +kernel
theorem dX9_hasBlock_30 : decode cX9_hasBlock 30 = .ok (.iconst 0, 1) := by decide +kernel
theorem dX9_hasBlock_31 : decode cX9_hasBlock 31 = .ok (.ireturn, 1) := by decide +kernel
theorem dX9_count_0 : decode cX9_count 0 = .ok (.iconst 0, 1) := by decide +kernel
theorem dX9_count_1 : decode cX9_count 1 = .ok (.istore 4, 2) := by decide +kernel
theorem dX9_count_3 : decode cX9_count 3 = .ok (.iload_n 2, 1) := by decide +kernel
theorem dX9_count_4 : decode cX9_count 4 = .ok (.iconst 0, 1) := by decide +kernel
theorem dX9_count_5 : decode cX9_count 5 = .ok (.invokestatic 7, 3) := by decide +kernel
theorem dX9_count_8 : decode cX9_count 8 = .ok (.istore 5, 2) := by decide +kernel
theorem dX9_count_10 : decode cX9_count 10 = .ok (.iload 5, 2) := by decide +kernel
theorem dX9_count_12 : decode cX9_count 12 = .ok (.iload_n 3, 1) := by decide +kernel
theorem dX9_count_13 : decode cX9_count 13 = .ok (.if_icmp .ge 32, 3) := by decide +kernel
theorem dX9_count_16 : decode cX9_count 16 = .ok (.iload 5, 2) := by decide +kernel
theorem dX9_count_18 : decode cX9_count 18 = .ok (.aload_n 0, 1) := by decide +kernel
theorem dX9_count_19 : decode cX9_count 19 = .ok (.getfield 19, 3) := by decide +kernel
theorem dX9_count_22 : decode cX9_count 22 = .ok (.if_icmp .ge 23, 3) := by decide +kernel
theorem dX9_count_25 : decode cX9_count 25 = .ok (.aload_n 0, 1) := by decide +kernel
theorem dX9_count_26 : decode cX9_count 26 = .ok (.getfield 13, 3) := by decide +kernel
theorem dX9_count_29 : decode cX9_count 29 = .ok (.iload 5, 2) := by decide +kernel
theorem dX9_count_31 : decode cX9_count 31 = .ok (.iaload, 1) := by decide +kernel
theorem dX9_count_32 : decode cX9_count 32 = .ok (.iload_n 1, 1) := by decide +kernel
theorem dX9_count_33 : decode cX9_count 33 = .ok (.if_icmp .ne 6, 3) := by decide +kernel
theorem dX9_count_36 : decode cX9_count 36 = .ok (.iinc 4 1, 3) := by decide +kernel
theorem dX9_count_39 : decode cX9_count 39 = .ok (.iinc 5 1, 3) := by decide +kernel
theorem dX9_count_42 : decode cX9_count 42 = .ok (.goto (-32), 3) := by decide +kernel
theorem dX9_count_45 : decode cX9_count 45 = .ok (.iload 4, 2) := by decide +kernel
theorem dX9_count_47 : decode cX9_count 47 = .ok (.ireturn, 1) := by decide +kernel
set_option maxRecDepth 20000 in
theorem ggX10_init_X1_init : GoodIn wsX10_init wsX1_init := goodIn_r _ [38, 39, 2, 3, 40, 41, 119, 120] rfl (by decide +kernel)
set_option maxRecDepth 20000 in
theorem gX10_init_X1_init_n9 : GoodIn wsX10_init (wsX1_init) := ggX10_init_X1_init
set_option maxRecDepth 20000 in
theorem ggX10_init_X5_init : GoodIn wsX10_init wsX5_init := goodIn_r _ [44, 45, 2, 3, 46, 47, 40, 48, 49, 50, 51, 14, 15, 52, 53, 54, 55, 56, 57, 58, 59, 60, 61, 62, 63, 10, 64, 65, 66, 131, 132, 133, 134, 135, 136, 137, 138] rfl (by decide +kernel)
set_option maxRecDepth 20000 in
theorem gX10_init_X5_init : GoodIn wsX10_init (wsX5_init) := ggX10_init_X5_init
set_option maxRecDepth 20000 in
theorem ggX10_init_X9_init : GoodIn wsX10_init wsX9_init := goodIn_r _ [54, 55, 2, 3, 56, 57, 58, 59, 40, 60, 137, 138] rfl (by decide +kernel)
set_option maxRecDepth 20000 in
theorem gX10_init_X9_init : GoodIn wsX10_init (wsX9_init) := ggX10_init_X9_init
set_option maxRecDepth 20000 in
theorem ggX10_init_X8_init : GoodIn wsX10_init wsX8_init := goodIn_r _ [69, 70, 2, 3, 40, 71, 72, 73, 74, 75, 76, 77, 139, 140, 141, 142, 143, 144, 145, 146, 147] rfl (by decide +kernel)
set_option maxRecDepth 20000 in
theorem gX10_init_X8_init_n37 : GoodIn wsX10_init (wsX8_init) := ggX10_init_X8_init
set_option maxRecDepth 20000 in
theorem ggX10_init_X4_init : GoodIn wsX10_init wsX4_init := goodIn_r _ [79, 80, 2, 3] rfl (by decide +kernel)
set_option maxRecDepth 20000 in
theorem gX10_init_X4_init_n44 : GoodIn wsX10_init (wsX4_init) := ggX10_init_X4_init
set_option maxRecDepth 20000 in
theorem ggX10_init_X2_init : GoodIn wsX10_init wsX2_init := goodIn_r _ [82, 83, 2, 3, 40, 84, 149, 150] rfl (by decide +kernel)
set_option maxRecDepth 20000 in
theorem gX10_init_X2_init_n51 : GoodIn wsX10_init (wsX2_init) := ggX10_init_X2_init
set_option maxRecDepth 20000 in
theorem ggX10_init_X0_init : GoodIn wsX10_init wsX0_init := goodIn_r _ [86, 87, 2, 3, 40, 88, 89, 90, 91, 92, 93, 94, 95, 96, 97, 98, 99, 100, 101, 102, 103, 104, 105, 106, 107, 108, 109, 110, 111, 112, 113, 114, 151, 152, 153, 154, 155, 156, 157, 158, 159, 160, 161, 162, 163, 164, 168, 169, 170, 171, 172, 173] rfl (by decide +kernel)
set_option maxRecDepth 20000 in
theorem gX10_init_X0_init_n58 : GoodIn wsX10_init (wsX0_init) := ggX10_init_X0_init
set_option maxRecDepth 20000 in
theorem ggX10_init_X3_init : GoodIn wsX10_init wsX3_init := goodIn_r _ [116, 117, 2, 3, 73, 118, 165, 166, 167] rfl (by decide +kernel)
set_option maxRecDepth 20000 in
theorem gX10_init_X3_init_n69 : GoodIn wsX10_init (wsX3_init) := ggX10_init_X3_init
theorem dX10_init_0 : decode cX10_init 0 = .ok (.aload_n 0, 1) := by decide +kernel
theorem dX10_init_1 : decode cX10_init 1 = .ok (.invokespecial 1, 3) := by decide +kernel
theorem dX10_init_4 : decode cX10_init 4 = .ok (.aload_n 0, 1) := by decide +kernel
theorem dX10_init_5 : decode cX10_init 5 = .ok (.new 7, 3) := by decide +kernel
theorem dX10_init_8 : decode cX10_init 8 = .ok (.dup, 1) := by decide +kernel
theorem dX10_init_9 : decode cX10_init 9 = .ok (.invokespecial 9, 3) := by decide +kernel
theorem dX10_init_12 : decode cX10_init 12 = .ok (.putfield 10, 3) := by decide +kernel
theorem dX10_init_15 : decode cX10_init 15 = .ok (.aload_n 0, 1) := by decide +kernel
theorem dX10_init_16 : decode cX10_init 16 = .ok (.new 16, 3) := by decide +kernel
theorem dX10_init_19 : decode cX10_init 19 = .ok (.dup, 1) := by decide +kernel
theorem dX10_init_20 : decode cX10_init 20 = .ok (.invokespecial 18, 3) := by decide +kernel
theorem dX10_init_23 : decode cX10_init 23 = .ok (.putfield 19, 3) := by decide +kernel
theorem dX10_init_26 : decode cX10_init 26 = .ok (.aload_n 0, 1) := by decide +kernel
theorem dX10_init_27 : decode cX10_init 27 = .ok (.new 16, 3) := by decide +kernel
theorem dX10_init_30 : decode cX10_init 30 = .ok (.dup, 1) := by decide +kernel
theorem dX10_init_31 : decode cX10_init 31 = .ok (.invokespecial 18, 3) := by decide +kernel
theorem dX10_init_34 : decode cX10_init 34 = .ok (.putfield 23, 3) := by decide +kernel
theorem dX10_init_37 : decode cX10_init 37 = .ok (.aload_n 0, 1) := by decide +kernel
theorem dX10_init_38 : decode cX10_init 38 = .ok (.new 26, 3) := by decide +kernel
theorem dX10_init_41 : decode cX10_init 41 = .ok (.dup, 1) := by decide +kernel
theorem dX10_init_42 : decode cX10_init 42 = .ok (.bipush 40, 2) := by decide +kernel
theorem dX10_init_44 : decode cX10_init 44 = .ok (.invokespecial 28, 3) := by decide +kernel
theorem dX10_init_47 : decode cX10_init 47 = .ok (.putfield 31, 3) := by decide +kernel
theorem dX10_init_50 : decode cX10_init 50 = .ok (.aload_n 0, 1) := by decide +kernel
theorem dX10_init_51 : decode cX10_init 51 = .ok (.new 35, 3) := by decide +kernel
theorem dX10_init_54 : decode cX10_init 54 = .ok (.dup, 1) := by decide +kernel
theorem dX10_init_55 : decode cX10_init 55 = .ok (.invokespecial 37, 3) := by decide +kernel
theorem dX10_init_58 : decode cX10_init 58 = .ok (.putfield 38, 3) := by decide +kernel
theorem dX10_init_61 : decode cX10_init 61 = .ok (.aload_n 0, 1) := by decide +kernel
theorem dX10_init_62 : decode cX10_init 62 = .ok (.new 42, 3) := by decide +kernel
theorem dX10_init_65 : decode cX10_init 65 = .ok (.dup, 1) := by decide +kernel
theorem dX10_init_66 : decode cX10_init 66 = .ok (.invokespecial 44, 3) := by decide +kernel
theorem dX10_init_69 : decode cX10_init 69 = .ok (.putfield 45, 3) := by decide +kernel
theorem dX10_init_72 : decode cX10_init 72 = .ok (.aload_n 0, 1) := by decide +kernel
theorem dX10_init_73 : decode cX10_init 73 = .ok (.new 49, 3) := by decide +kernel
theorem dX10_init_76 : decode cX10_init 76 = .ok (.dup, 1) := by decide +kernel
theorem dX10_init_77 : decode cX10_init 77 = .ok (.invokespecial 51, 3) := by decide +kernel
theorem dX10_init_80 : decode cX10_init 80 = .ok (.putfield 52, 3) := by decide +kernel
theorem dX10_init_83 : decode cX10_init 83 = .ok (.aload_n 0, 1) := by decide +kernel
theorem dX10_init_84 : decode cX10_init 84 = .ok (.new 56, 3) := by decide +kernel
theorem dX10_init_87 : decode cX10_init 87 = .ok (.dup, 1) := by decide +kernel
theorem dX10_init_88 : decode cX10_init 88 = .ok (.invokespecial 58, 3) := by decide +kernel
theorem dX10_init_91 : decode cX10_init 91 = .ok (.putfield 59, 3) := by decide +kernel
theorem dX10_init_94 : decode cX10_init 94 = .ok (.aload_n 0, 1) := by decide +kernel
theorem dX10_init_95 : decode cX10_init 95 = .ok (.iconst 3, 1) := by decide +kernel
theorem dX10_init_96 : decode cX10_init 96 = .ok (.anewarray 63, 3) := by decide +kernel
theorem dX10_init_99 : decode cX10_init 99 = .ok (.putfield 65, 3) := by decide +kernel
theorem dX10_init_102 : decode cX10_init 102 = .ok (.iconst 0, 1) := by decide +kernel
theorem dX10_init_103 : decode cX10_init 103 = .ok (.istore_n 1, 1) := by decide +kernel
theorem dX10_init_104 : decode cX10_init 104 = .ok (.iload_n 1, 1) := by decide +kernel
theorem dX10_init_105 : decode cX10_init 105 = .ok (.iconst 3, 1) := by decide +kernel
theorem dX10_init_106 : decode cX10_init 106 = .ok (.if_icmp .ge 22, 3) := by decide +kernel
theorem dX10_init_109 : decode cX10_init 109 = .ok (.aload_n 0, 1) := by decide +kernel
theorem dX10_init_110 : decode cX10_init 110 = .ok (.getfield 65, 3) := by decide +kernel
theorem dX10_init_113 : decode cX10_init 113 = .ok (.iload_n 1, 1) := by decide +kernel
theorem dX10_init_114 : decode cX10_init 114 = .ok (.new 63, 3) := by decide +kernel
theorem dX10_init_117 : decode cX10_init 117 = .ok (.dup, 1) := by decide +kernel
theorem dX10_init_118 : decode cX10_init 118 = .ok (.invokespecial 69, 3) := by decide +kernel
theorem dX10_init_121 : decode cX10_init 121 = .ok (.aastore, 1) := by decide +kernel
theorem dX10_init_122 : decode cX10_init 122 = .ok (.iinc 1 1, 3) := by decide +kernel
theorem dX10_init_125 : decode cX10_init 125 = .ok (.goto (-21), 3) := by decide +kernel
theorem dX10_init_128 : decode cX10_init 128 = .ok (.return_, 1) := by decide +kernel
set_option maxRecDepth 20000 in
theorem ggX10_feed_X1_put : GoodIn wsX10_feed wsX1_put := goodIn_r _ [7, 8, 9, 20, 21] rfl (by decide +kernel)
set_option maxRecDepth 20000 in
theorem gX10_feed_X1_put : GoodIn wsX10_feed (wsV RX10 74 RX1 yX1_put wsX1_put) := goodIn_app (goodIn_r _ [3, 4, 5, 6] rfl (by decide +kernel)) ggX10_feed_X1_put
theorem dX10_feed_0 : decode cX10_feed 0 = .ok (.iload_n 1, 1) := by decide +kernel
theorem dX10_feed_1 : decode cX10_feed 1 = .ok (.iconst 1, 1) := by decide +kernel
theorem dX10_feed_2 : decode cX10_feed 2 = .ok (.if_icmp .lt 9, 3) := by decide +kernel
theorem dX10_feed_5 : decode cX10_feed 5 = .ok (.iload_n 1, 1) := by decide +kernel
theorem dX10_feed_6 : decode cX10_feed 6 = .ok (.bipush 127, 2) := by decide +kernel
theorem dX10_feed_8 : decode cX10_feed 8 = .ok (.if_icmp .le 5, 3) := by decide +kernel
theorem dX10_feed_11 : decode cX10_feed 11 = .ok (.iconst (-1), 1) := by decide +kernel
theorem dX10_feed_12 : decode cX10_feed 12 = .ok (.ireturn, 1) := by decide +kernel
theorem dX10_feed_13 : decode cX10_feed 13 = .ok (.aload_n 0, 1) := by decide +kernel
theorem dX10_feed_14 : decode cX10_feed 14 = .ok (.getfield 10, 3) := by decide +kernel
theorem dX10_feed_17 : decode cX10_feed 17 = .ok (.getfield 70, 3) := by decide +kernel
theorem dX10_feed_20 : decode cX10_feed 20 = .ok (.bipush 16, 2) := by decide +kernel
theorem dX10_feed_22 : decode cX10_feed 22 = .ok (.if_icmp .lt 6, 3) := by decide +kernel
theorem dX10_feed_25 : decode cX10_feed 25 = .ok (.bipush (-3), 2) := by decide +kernel
theorem dX10_feed_27 : decode cX10_feed 27 = .ok (.ireturn, 1) := by decide +kernel
theorem dX10_feed_28 : decode cX10_feed 28 = .ok (.aload_n 0, 1) := by decide +kernel
theorem dX10_feed_29 : decode cX10_feed 29 = .ok (.getfield 10, 3) := by decide +kernel
theorem dX10_feed_32 : decode cX10_feed 32 = .ok (.iload_n 1, 1) := by decide +kernel
theorem dX10_feed_33 : decode cX10_feed 33 = .ok (.invokevirtual 74, 3) := by decide +kernel
theorem dX10_feed_36 : decode cX10_feed 36 = .ok (.aload_n 0, 1) := by decide +kernel
theorem dX10_feed_37 : decode cX10_feed 37 = .ok (.getfield 10, 3) := by decide +kernel
theorem dX10_feed_40 : decode cX10_feed 40 = .ok (.getfield 70, 3) := by decide +kernel
theorem dX10_feed_43 : decode cX10_feed 43 = .ok (.ireturn, 1) := by decide +kernel
set_option maxRecDepth 20000 in
theorem ggX10_parseProblem_X1_likeliestKind : GoodIn wsX10_parseProblem wsX1_likeliestKind := goodIn_r _ [11, 12, 13, 10, 14, 15, 16, 17, 18, 19, 20, 21, 22, 23, 24, 25, 26, 27, 28, 29, 30, 31, 32, 33, 34, 35, 36, 37, 38, 39, 40, 41, 42, 43, 44, 45, 46, 47, 48, 49, 50, 51, 52, 53, 54, 55, 56, 57, 58, 59, 60, 61, 62, 63, 64, 65, 66, 67, 68, 69, 70, 71, 72, 73, 105, 106] rfl (by decide +kernel)
set_option maxRecDepth 20000 in
theorem gX10_parseProblem_X1_likeliestKind : GoodIn wsX10_parseProblem (wsV RX10 77 RX1 yX1_likeliestKind wsX1_likeliestKind) := goodIn_app (goodIn_r _ [7, 8, 9, 10] rfl (by decide +kernel)) ggX10_parseProblem_X1_likeliestKind
set_option maxRecDepth 20000 in
theorem ggX10_parseProblem_X1_kindText : GoodIn wsX10_parseProblem wsX1_kindText := goodIn_r _ [14] rfl (by decide +kernel)
set_option maxRecDepth 20000 in
theorem gX10_parseProblem_X1_kindText : GoodIn wsX10_parseProblem (va_wsS RX10 81 yX1_kindText wsX1_kindText) := goodIn_app (goodIn_r _ [74, 13, 10] rfl (by decide +kernel)) ggX10_parseProblem_X1_kindText
set_option maxRecDepth 20000 in
theorem ggX10_parseProblem_J0_length_8abf5 : GoodIn wsX10_parseProblem wsJ0_length_8abf5 := goodIn_r _ [23, 24, 25, 26, 27, 22, 28, 29, 30] rfl (by decide +kernel)
set_option maxRecDepth 20000 in
theorem gX10_parseProblem_J0_length_8abf5 : GoodIn wsX10_parseProblem (wsV RX10 85 RJ0 yJ0_length_8abf5 wsJ0_length_8abf5) := goodIn_app (goodIn_r _ [75, 20, 21, 22] rfl (by decide +kernel)) ggX10_parseProblem_J0_length_8abf5
set_option maxRecDepth 20000 in
theorem ggX10_parseProblem_X1_problemFault : GoodIn wsX10_parseProblem wsX1_problemFault := goodIn_r _ [79, 35, 12, 13, 10, 14, 15, 16, 17, 18, 19, 20, 21, 22, 23, 24, 25, 26, 27, 28, 29, 30, 31, 32, 33, 34, 36, 37, 38, 39, 40, 41, 42, 43, 44, 45, 46, 47, 48, 49, 50, 51, 52, 53, 54, 55, 56, 57, 58, 59, 60, 61, 62, 63, 64, 65, 66, 67, 68, 69, 70, 71, 72, 73, 80, 81, 82, 83, 105, 106] rfl (by decide +kernel)
set_option maxRecDepth 20000 in
theorem gX10_parseProblem_X1_problemFault : GoodIn wsX10_parseProblem (wsV RX10 90 RX1 yX1_problemFault wsX1_problemFault) := goodIn_app (goodIn_r _ [76, 77, 78, 10] rfl (by decide +kernel)) ggX10_parseProblem_X1_problemFault
set_option maxRecDepth 20000 in
theorem ggX10_parseProblem_X1_digitAt : GoodIn wsX10_parseProblem wsX1_digitAt := goodIn_r _ [83, 31, 32, 33, 10, 34, 35, 36, 105, 106] rfl (by decide +kernel)
set_option maxRecDepth 20000 in
theorem gX10_parseProblem_X1_digitAt : GoodIn wsX10_parseProblem (wsV RX10 94 RX1 yX1_digitAt wsX1_digitAt) := goodIn_app (goodIn_r _ [84, 81, 82, 10] rfl (by decide +kernel)) ggX10_parseProblem_X1_digitAt
set_option maxRecDepth 20000 in
theorem ggX10_parseProblem_X5_startOver : GoodIn wsX10_parseProblem wsX5_startOver := goodIn_r _ [89, 90, 91, 92, 93, 94, 107, 108, 109, 110, 111, 112, 113, 114] rfl (by decide +kernel)
set_option maxRecDepth 20000 in
theorem gX10_parseProblem_X5_startOver : GoodIn wsX10_parseProblem (wsV RX10 106 RX5 yX5_startOver wsX5_startOver) := goodIn_app (goodIn_r _ [85, 86, 87, 88] rfl (by decide +kernel)) ggX10_parseProblem_X5_startOver
theorem dX10_parseProblem_0 : decode cX10_parseProblem 0 = .ok (.aload_n 0, 1) := by decide +kernel
theorem dX10_parseProblem_1 : decode cX10_parseProblem 1 = .ok (.getfield 10, 3) := by decide +kernel
theorem dX10_parseProblem_4 : decode cX10_parseProblem 4 = .ok (.invokevirtual 77, 3) := by decide +kernel
theorem dX10_parseProblem_7 : decode cX10_parseProblem 7 = .ok (.istore_n 1, 1) := by decide +kernel
theorem dX10_parseProblem_8 : decode cX10_parseProblem 8 = .ok (.iload_n 1, 1) := by decide +kernel
theorem dX10_parseProblem_9 : decode cX10_parseProblem 9 = .ok (.invokestatic 81, 3) := by decide +kernel
theorem dX10_parseProblem_12 : decode cX10_parseProblem 12 = .ok (.invokevirtual 85, 3) := by decide +kernel
theorem dX10_parseProblem_15 : decode cX10_parseProblem 15 = .ok (.istore_n 2, 1) := by decide +kernel
theorem dX10_parseProblem_16 : decode cX10_parseProblem 16 = .ok (.aload_n 0, 1) := by decide +kernel
theorem dX10_parseProblem_17 : decode cX10_parseProblem 17 = .ok (.getfield 10, 3) := by decide +kernel
theorem dX10_parseProblem_20 : decode cX10_parseProblem 20 = .ok (.iload_n 1, 1) := by decide +kernel
theorem dX10_parseProblem_21 : decode cX10_parseProblem 21 = .ok (.invokevirtual 90, 3) := by decide +kernel
theorem dX10_parseProblem_24 : decode cX10_parseProblem 24 = .ok (.istore_n 3, 1) := by decide +kernel
theorem dX10_parseProblem_25 : decode cX10_parseProblem 25 = .ok (.aload_n 0, 1) := by decide +kernel
theorem dX10_parseProblem_26 : decode cX10_parseProblem 26 = .ok (.getfield 10, 3) := by decide +kernel
theorem dX10_parseProblem_29 : decode cX10_parseProblem 29 = .ok (.iload_n 2, 1) := by decide +kernel
theorem dX10_parseProblem_30 : decode cX10_parseProblem 30 = .ok (.invokevirtual 94, 3) := by decide +kernel
theorem dX10_parseProblem_33 : decode cX10_parseProblem 33 = .ok (.istore 4, 2) := by decide +kernel
theorem dX10_parseProblem_35 : decode cX10_parseProblem 35 = .ok (.aload_n 0, 1) := by decide +kernel
theorem dX10_parseProblem_36 : decode cX10_parseProblem 36 = .ok (.getfield 10, 3) := by decide +kernel
theorem dX10_parseProblem_39 : decode cX10_parseProblem 39 = .ok (.iload_n 2, 1) := by decide +kernel
theorem dX10_parseProblem_40 : decode cX10_parseProblem 40 = .ok (.iconst 2, 1) := by decide +kernel
theorem dX10_parseProblem_41 : decode cX10_parseProblem 41 = .ok (.iadd, 1) := by decide +kernel
theorem dX10_parseProblem_42 : decode cX10_parseProblem 42 = .ok (.invokevirtual 94, 3) := by decide +kernel
theorem dX10_parseProblem_45 : decode cX10_parseProblem 45 = .ok (.istore 5, 2) := by decide +kernel
theorem dX10_parseProblem_47 : decode cX10_parseProblem 47 = .ok (.aload_n 0, 1) := by decide +kernel
theorem dX10_parseProblem_48 : decode cX10_parseProblem 48 = .ok (.getfield 10, 3) := by decide +kernel
theorem dX10_parseProblem_51 : decode cX10_parseProblem 51 = .ok (.iconst 0, 1) := by decide +kernel
theorem dX10_parseProblem_52 : decode cX10_parseProblem 52 = .ok (.putfield 70, 3) := by decide +kernel
theorem dX10_parseProblem_55 : decode cX10_parseProblem 55 = .ok (.iload_n 3, 1) := by decide +kernel
theorem dX10_parseProblem_56 : decode cX10_parseProblem 56 = .ok (.iconst (-1), 1) := by decide +kernel
theorem dX10_parseProblem_57 : decode cX10_parseProblem 57 = .ok (.if_icmp .eq 8, 3) := by decide +kernel
theorem dX10_parseProblem_60 : decode cX10_parseProblem 60 = .ok (.bipush (-100), 2) := by decide +kernel
theorem dX10_parseProblem_62 : decode cX10_parseProblem 62 = .ok (.iload_n 3, 1) := by decide +kernel
theorem dX10_parseProblem_63 : decode cX10_parseProblem 63 = .ok (.isub, 1) := by decide +kernel
theorem dX10_parseProblem_64 : decode cX10_parseProblem 64 = .ok (.ireturn, 1) := by decide +kernel
theorem dX10_parseProblem_65 : decode cX10_parseProblem 65 = .ok (.aload_n 0, 1) := by decide +kernel
theorem dX10_parseProblem_66 : decode cX10_parseProblem 66 = .ok (.getfield 19, 3) := by decide +kernel
theorem dX10_parseProblem_69 : decode cX10_parseProblem 69 = .ok (.iload_n 1, 1) := by decide +kernel
theorem dX10_parseProblem_70 : decode cX10_parseProblem 70 = .ok (.putfield 97, 3) := by decide +kernel
theorem dX10_parseProblem_73 : decode cX10_parseProblem 73 = .ok (.aload_n 0, 1) := by decide +kernel
theorem dX10_parseProblem_74 : decode cX10_parseProblem 74 = .ok (.getfield 19, 3) := by decide +kernel
theorem dX10_parseProblem_77 : decode cX10_parseProblem 77 = .ok (.iload 4, 2) := by decide +kernel
theorem dX10_parseProblem_79 : decode cX10_parseProblem 79 = .ok (.putfield 100, 3) := by decide +kernel
theorem dX10_parseProblem_82 : decode cX10_parseProblem 82 = .ok (.iload 5, 2) := by decide +kernel
theorem dX10_parseProblem_84 : decode cX10_parseProblem 84 = .ok (.aload_n 0, 1) := by decide +kernel
theorem dX10_parseProblem_85 : decode cX10_parseProblem 85 = .ok (.getfield 19, 3) := by decide +kernel
theorem dX10_parseProblem_88 : decode cX10_parseProblem 88 = .ok (.getfield 103, 3) := by decide +kernel
theorem dX10_parseProblem_91 : decode cX10_parseProblem 91 = .ok (.if_icmp .eq 12, 3) := by decide +kernel
theorem dX10_parseProblem_94 : decode cX10_parseProblem 94 = .ok (.aload_n 0, 1) := by decide +kernel
theorem dX10_parseProblem_95 : decode cX10_parseProblem 95 = .ok (.getfield 19, 3) := by decide +kernel
theorem dX10_parseProblem_98 : decode cX10_parseProblem 98 = .ok (.iload 5, 2) := by decide +kernel
theorem dX10_parseProblem_100 : decode cX10_parseProblem 100 = .ok (.invokevirtual 106, 3) := by decide +kernel
theorem dX10_parseProblem_103 : decode cX10_parseProblem 103 = .ok (.iload 4, 2) := by decide +kernel
theorem dX10_parseProblem_105 : decode cX10_parseProblem 105 = .ok (.ireturn, 1) := by decide +kernel
theorem dX10_problem_0 : decode cX10_problem 0 = .ok (.iload_n 1, 1) := by decide +kernel
theorem dX10_problem_1 : decode cX10_problem 1 = .ok (.tableswitch 51 0 2 #[27, 35, 43], 27) := by decide +kernel
theorem dX10_problem_28 : decode cX10_problem 28 = .ok (.aload_n 0, 1) := by decide +kernel
theorem dX10_problem_29 : decode cX10_problem 29 = .ok (.getfield 19, 3) := by decide +kernel
theorem dX10_problem_32 : decode cX10_problem 32 = .ok (.getfield 97, 3) := by decide +kernel
theorem dX10_problem_35 : decode cX10_problem 35 = .ok (.ireturn, 1) := by decide +kernel
theorem dX10_problem_36 : decode cX10_problem 36 = .ok (.aload_n 0, 1) := by decide +kernel
theorem dX10_problem_37 : decode cX10_problem 37 = .ok (.getfield 19, 3) := by decide +kernel
theorem dX10_problem_40 : decode cX10_problem 40 = .ok (.getfield 100, 3) := by decide +kernel
theorem dX10_problem_43 : decode cX10_problem 43 = .ok (.ireturn, 1) := by decide +kernel
theorem dX10_problem_44 : decode cX10_problem 44 = .ok (.aload_n 0, 1) := by decide +kernel
theorem dX10_problem_45 : decode cX10_problem 45 = .ok (.getfield 19, 3) := by decide +kernel
theorem dX10_problem_48 : decode cX10_problem 48 = .ok (.getfield 103, 3) := by decide +kernel
theorem dX10_problem_51 : decode cX10_problem 51 = .ok (.ireturn, 1) := by decide +kernel
theorem dX10_problem_52 : decode cX10_problem 52 = .ok (.iconst (-1), 1) := by decide +kernel
theorem dX10_problem_53 : decode cX10_problem 53 = .ok (.ireturn, 1) := by decide +kernel
set_option maxRecDepth 20000 in
theorem ggX10_setValue_X5_hasLetter : GoodIn wsX10_setValue wsX5_hasLetter := goodIn_r _ [7, 8, 19, 20, 21, 22, 23, 24] rfl (by decide +kernel)
set_option maxRecDepth 20000 in
theorem gX10_setValue_X5_hasLetter : GoodIn wsX10_setValue (wsV RX10 109 RX5 yX5_hasLetter wsX5_hasLetter) := goodIn_app (goodIn_r _ [3, 4, 5, 6] rfl (by decide +kernel)) ggX10_setValue_X5_hasLetter
theorem dX10_setValue_0 : decode cX10_setValue 0 = .ok (.aload_n 0, 1) := by decide +kernel
theorem dX10_setValue_1 : decode cX10_setValue 1 = .ok (.getfield 19, 3) := by decide +kernel
theorem dX10_setValue_4 : decode cX10_setValue 4 = .ok (.iload_n 1, 1) := by decide +kernel
theorem dX10_setValue_5 : decode cX10_setValue 5 = .ok (.invokevirtual 109, 3) := by decide +kernel
theorem dX10_setValue_8 : decode cX10_setValue 8 = .ok (.ifCond .eq 15, 3) := by decide +kernel
theorem dX10_setValue_11 : decode cX10_setValue 11 = .ok (.iload_n 2, 1) := by decide +kernel
theorem dX10_setValue_12 : decode cX10_setValue 12 = .ok (.bipush (-9), 2) := by decide +kernel
theorem dX10_setValue_14 : decode cX10_setValue 14 = .ok (.if_icmp .lt 9, 3) := by decide +kernel
theorem dX10_setValue_17 : decode cX10_setValue 17 = .ok (.iload_n 2, 1) := by decide +kernel
theorem dX10_setValue_18 : decode cX10_setValue 18 = .ok (.bipush 9, 2) := by decide +kernel
theorem dX10_setValue_20 : decode cX10_setValue 20 = .ok (.if_icmp .le 5, 3) := by decide +kernel
theorem dX10_setValue_23 : decode cX10_setValue 23 = .ok (.iconst (-1), 1) := by decide +kernel
theorem dX10_setValue_24 : decode cX10_setValue 24 = .ok (.ireturn, 1) := by decide +kernel
theorem dX10_setValue_25 : decode cX10_setValue 25 = .ok (.aload_n 0, 1) := by decide +kernel
theorem dX10_setValue_26 : decode cX10_setValue 26 = .ok (.getfield 19, 3) := by decide +kernel
theorem dX10_setValue_29 : decode cX10_setValue 29 = .ok (.getfield 113, 3) := by decide +kernel
theorem dX10_setValue_32 : decode cX10_setValue 32 = .ok (.iload_n 1, 1) := by decide +kernel
theorem dX10_setValue_33 : decode cX10_setValue 33 = .ok (.iaload, 1) := by decide +kernel
theorem dX10_setValue_34 : decode cX10_setValue 34 = .ok (.istore_n 3, 1) := by decide +kernel
theorem dX10_setValue_35 : decode cX10_setValue 35 = .ok (.aload_n 0, 1) := by decide +kernel
theorem dX10_setValue_36 : decode cX10_setValue 36 = .ok (.getfield 19, 3) := by decide +kernel
theorem dX10_setValue_39 : decode cX10_setValue 39 = .ok (.getfield 113, 3) := by decide +kernel
theorem dX10_setValue_42 : decode cX10_setValue 42 = .ok (.iload_n 1, 1) := by decide +kernel
theorem dX10_setValue_43 : decode cX10_setValue 43 = .ok (.iload_n 2, 1) := by decide +kernel
theorem dX10_setValue_44 : decode cX10_setValue 44 = .ok (.iastore, 1) := by decide +kernel
theorem dX10_setValue_45 : decode cX10_setValue 45 = .ok (.iload_n 3, 1) := by decide +kernel
theorem dX10_setValue_46 : decode cX10_setValue 46 = .ok (.bipush 10, 2) := by decide +kernel
theorem dX10_setValue_48 : decode cX10_setValue 48 = .ok (.iadd, 1) := by decide +kernel
theorem dX10_setValue_49 : decode cX10_setValue 49 = .ok (.ireturn, 1) := by decide +kernel
set_option maxRecDepth 20000 in
theorem ggX10_append_X10_isWord : GoodIn wsX10_append wsX10_isWord := goodIn_r _ [7] rfl (by decide +kernel)
set_option maxRecDepth 20000 in
theorem gX10_append_X10_isWord : GoodIn wsX10_append (va_wsS RX10 117 yX10_isWord wsX10_isWord) := goodIn_app (goodIn_r _ [4, 5, 6] rfl (by decide +kernel)) ggX10_append_X10_isWord
set_option maxRecDepth 20000 in
theorem ggX10_append_X5_hasLetter : GoodIn wsX10_append wsX5_hasLetter := goodIn_r _ [12, 13, 31, 32, 33, 34, 35, 36] rfl (by decide +kernel)
set_option maxRecDepth 20000 in
theorem gX10_append_X5_hasLetter : GoodIn wsX10_append (wsV RX10 109 RX5 yX5_hasLetter wsX5_hasLetter) := goodIn_app (goodIn_r _ [8, 9, 10, 11] rfl (by decide +kernel)) ggX10_append_X5_hasLetter
set_option maxRecDepth 20000 in
theorem ggX10_append_X9_put : GoodIn wsX10_append wsX9_put := goodIn_r _ [18, 19, 20, 37, 38] rfl (by decide +kernel)
set_option maxRecDepth 20000 in
theorem gX10_append_X9_put : GoodIn wsX10_append (wsV RX10 125 RX9 yX9_put wsX9_put) := goodIn_app (goodIn_r _ [14, 15, 16, 17] rfl (by decide +kernel)) ggX10_append_X9_put
theorem dX10_append_0 : decode cX10_append 0 = .ok (.iload_n 1, 1) := by decide +kernel
theorem dX10_append_1 : decode cX10_append 1 = .ok (.invokestatic 117, 3) := by decide +kernel
theorem dX10_append_4 : decode cX10_append 4 = .ok (.ifCond .eq 14, 3) := by decide +kernel
theorem dX10_append_7 : decode cX10_append 7 = .ok (.aload_n 0, 1) := by decide +kernel
theorem dX10_append_8 : decode cX10_append 8 = .ok (.getfield 19, 3) := by decide +kernel
theorem dX10_append_11 : decode cX10_append 11 = .ok (.iload_n 2, 1) := by decide +kernel
theorem dX10_append_12 : decode cX10_append 12 = .ok (.invokevirtual 109, 3) := by decide +kernel
theorem dX10_append_15 : decode cX10_append 15 = .ok (.ifCond .ne 5, 3) := by decide +kernel
theorem dX10_append_18 : decode cX10_append 18 = .ok (.iconst (-1), 1) := by decide +kernel
theorem dX10_append_19 : decode cX10_append 19 = .ok (.ireturn, 1) := by decide +kernel
theorem dX10_append_20 : decode cX10_append 20 = .ok (.aload_n 0, 1) := by decide +kernel
theorem dX10_append_21 : decode cX10_append 21 = .ok (.getfield 19, 3) := by decide +kernel
theorem dX10_append_24 : decode cX10_append 24 = .ok (.getfield 120, 3) := by decide +kernel
theorem dX10_append_27 : decode cX10_append 27 = .ok (.iload_n 1, 1) := by decide +kernel
theorem dX10_append_28 : decode cX10_append 28 = .ok (.aaload, 1) := by decide +kernel
theorem dX10_append_29 : decode cX10_append 29 = .ok (.astore_n 3, 1) := by decide +kernel
theorem dX10_append_30 : decode cX10_append 30 = .ok (.aload_n 3, 1) := by decide +kernel
theorem dX10_append_31 : decode cX10_append 31 = .ok (.getfield 124, 3) := by decide +kernel
theorem dX10_append_34 : decode cX10_append 34 = .ok (.bipush 40, 2) := by decide +kernel
theorem dX10_append_36 : decode cX10_append 36 = .ok (.if_icmp .lt 6, 3) := by decide +kernel
theorem dX10_append_39 : decode cX10_append 39 = .ok (.bipush (-3), 2) := by decide +kernel
theorem dX10_append_41 : decode cX10_append 41 = .ok (.ireturn, 1) := by decide +kernel
theorem dX10_append_42 : decode cX10_append 42 = .ok (.aload_n 3, 1) := by decide +kernel
theorem dX10_append_43 : decode cX10_append 43 = .ok (.iload_n 2, 1) := by decide +kernel
theorem dX10_append_44 : decode cX10_append 44 = .ok (.invokevirtual 125, 3) := by decide +kernel
theorem dX10_append_47 : decode cX10_append 47 = .ok (.aload_n 3, 1) := by decide +kernel
theorem dX10_append_48 : decode cX10_append 48 = .ok (.getfield 124, 3) := by decide +kernel
theorem dX10_append_51 : decode cX10_append 51 = .ok (.ireturn, 1) := by decide +kernel
set_option maxRecDepth 20000 in
theorem ggX10_clearWord_X10_isWord : GoodIn wsX10_clearWord wsX10_isWord := goodIn_r _ [7] rfl (by decide +kernel)
set_option maxRecDepth 20000 in
theorem gX10_clearWord_X10_isWord : GoodIn wsX10_clearWord (va_wsS RX10 117 yX10_isWord wsX10_isWord) := goodIn_app (goodIn_r _ [4, 5, 6] rfl (by decide +kernel)) ggX10_clearWord_X10_isWord
theorem dX10_clearWord_0 : decode cX10_clearWord 0 = .ok (.iload_n 1, 1) := by decide +kernel
theorem dX10_clearWord_1 : decode cX10_clearWord 1 = .ok (.invokestatic 117, 3) := by decide +kernel
theorem dX10_clearWord_4 : decode cX10_clearWord 4 = .ok (.ifCond .ne 5, 3) := by decide +kernel
theorem dX10_clearWord_7 : decode cX10_clearWord 7 = .ok (.iconst (-1), 1) := by decide +kernel
theorem dX10_clearWord_8 : decode cX10_clearWord 8 = .ok (.ireturn, 1) := by decide +kernel
theorem dX10_clearWord_9 : decode cX10_clearWord 9 = .ok (.aload_n 0, 1) := by decide +kernel
theorem dX10_clearWord_10 : decode cX10_clearWord 10 = .ok (.getfield 19, 3) := by decide +kernel
theorem dX10_clearWord_13 : decode cX10_clearWord 13 = .ok (.getfield 120, 3) := by decide +kernel
theorem dX10_clearWord_16 : decode cX10_clearWord 16 = .ok (.iload_n 1, 1) := by decide +kernel
theorem dX10_clearWord_17 : decode cX10_clearWord 17 = .ok (.aaload, 1) := by decide +kernel
theorem dX10_clearWord_18 : decode cX10_clearWord 18 = .ok (.getfield 124, 3) := by decide +kernel
theorem dX10_clearWord_21 : decode cX10_clearWord 21 = .ok (.istore_n 2, 1) := by decide +kernel
theorem dX10_clearWord_22 : decode cX10_clearWord 22 = .ok (.aload_n 0, 1) := by decide +kernel
theorem dX10_clearWord_23 : decode cX10_clearWord 23 = .ok (.getfield 19, 3) := by decide +kernel
theorem dX10_clearWord_26 : decode cX10_clearWord 26 = .ok (.getfield 120, 3) := by decide +kernel
theorem dX10_clearWord_29 : decode cX10_clearWord 29 = .ok (.iload_n 1, 1) := by decide +kernel
theorem dX10_clearWord_30 : decode cX10_clearWord 30 = .ok (.aaload, 1) := by decide +kernel
theorem dX10_clearWord_31 : decode cX10_clearWord 31 = .ok (.iconst 0, 1) := by decide +kernel
theorem dX10_clearWord_32 : decode cX10_clearWord 32 = .ok (.putfield 124, 3) := by decide +kernel
theorem dX10_clearWord_35 : decode cX10_clearWord 35 = .ok (.iload_n 2, 1) := by decide +kernel
theorem dX10_clearWord_36 : decode cX10_clearWord 36 = .ok (.ireturn, 1) := by decide +kernel
set_option maxRecDepth 20000 in
theorem ggX10_length_X10_isWord : GoodIn wsX10_length wsX10_isWord := goodIn_r _ [7] rfl (by decide +kernel)
set_option maxRecDepth 20000 in
theorem gX10_length_X10_isWord : GoodIn wsX10_length (va_wsS RX10 117 yX10_isWord wsX10_isWord) := goodIn_app (goodIn_r _ [4, 5, 6] rfl (by decide +kernel)) ggX10_length_X10_isWord
theorem dX10_length_0 : decode cX10_length 0 = .ok (.iload_n 1, 1) := by decide +kernel
theorem dX10_length_1 : decode cX10_length 1 = .ok (.invokestatic 117, 3) := by decide +kernel
theorem dX10_length_4 : decode cX10_length 4 = .ok (.ifCond .eq 18, 3) := by decide +kernel
theorem dX10_length_7 : decode cX10_length 7 = .ok (.aload_n 0, 1) := by decide +kernel
theorem dX10_length_8 : decode cX10_length 8 = .ok (.getfield 19, 3) := by decide +kernel
theorem dX10_length_11 : decode cX10_length 11 = .ok (.getfield 120, 3) := by decide +kernel
theorem dX10_length_14 : decode cX10_length 14 = .ok (.iload_n 1, 1) := by decide +kernel
theorem dX10_length_15 : decode cX10_length 15 = .ok (.aaload, 1) := by decide +kernel
theorem dX10_length_16 : decode cX10_length 16 = .ok (.getfield 124, 3) := by decide +kernel
theorem dX10_length_19 : decode cX10_length 19 = .ok (.goto 4, 3) := by decide +kernel
theorem dX10_length_22 : decode cX10_length 22 = .ok (.iconst (-1), 1) := by decide +kernel
theorem dX10_length_23 : decode cX10_length 23 = .ok (.ireturn, 1) := by decide +kernel
set_option maxRecDepth 20000 in
theorem ggX10_letter_X10_isWord : GoodIn wsX10_letter wsX10_isWord := goodIn_r _ [8] rfl (by decide +kernel)
set_option maxRecDepth 20000 in
theorem gX10_letter_X10_isWord : GoodIn wsX10_letter (va_wsS RX10 117 yX10_isWord wsX10_isWord) := goodIn_app (goodIn_r _ [5, 6, 7] rfl (by decide +kernel)) ggX10_letter_X10_isWord
theorem dX10_letter_0 : decode cX10_letter 0 = .ok (.iload_n 1, 1) := by decide +kernel
theorem dX10_letter_1 : decode cX10_letter 1 = .ok (.invokestatic 117, 3) := by decide +kernel
theorem dX10_letter_4 : decode cX10_letter 4 = .ok (.ifCond .ne 5, 3) := by decide +kernel
theorem dX10_letter_7 : decode cX10_letter 7 = .ok (.iconst (-1), 1) := by decide +kernel
theorem dX10_letter_8 : decode cX10_letter 8 = .ok (.ireturn, 1) := by decide +kernel
theorem dX10_letter_9 : decode cX10_letter 9 = .ok (.aload_n 0, 1) := by decide +kernel
theorem dX10_letter_10 : decode cX10_letter 10 = .ok (.getfield 19, 3) := by decide +kernel
theorem dX10_letter_13 : decode cX10_letter 13 = .ok (.getfield 120, 3) := by decide +kernel
theorem dX10_letter_16 : decode cX10_letter 16 = .ok (.iload_n 1, 1) := by decide +kernel
theorem dX10_letter_17 : decode cX10_letter 17 = .ok (.aaload, 1) := by decide +kernel
theorem dX10_letter_18 : decode cX10_letter 18 = .ok (.astore_n 3, 1) := by decide +kernel
theorem dX10_letter_19 : decode cX10_letter 19 = .ok (.iload_n 2, 1) := by decide +kernel
theorem dX10_letter_20 : decode cX10_letter 20 = .ok (.ifCond .lt 20, 3) := by decide +kernel
theorem dX10_letter_23 : decode cX10_letter 23 = .ok (.iload_n 2, 1) := by decide +kernel
theorem dX10_letter_24 : decode cX10_letter 24 = .ok (.aload_n 3, 1) := by decide +kernel
theorem dX10_letter_25 : decode cX10_letter 25 = .ok (.getfield 124, 3) := by decide +kernel
theorem dX10_letter_28 : decode cX10_letter 28 = .ok (.if_icmp .ge 12, 3) := by decide +kernel
theorem dX10_letter_31 : decode cX10_letter 31 = .ok (.aload_n 3, 1) := by decide +kernel
theorem dX10_letter_32 : decode cX10_letter 32 = .ok (.getfield 126, 3) := by decide +kernel
theorem dX10_letter_35 : decode cX10_letter 35 = .ok (.iload_n 2, 1) := by decide +kernel
theorem dX10_letter_36 : decode cX10_letter 36 = .ok (.iaload, 1) := by decide +kernel
theorem dX10_letter_37 : decode cX10_letter 37 = .ok (.goto 5, 3) := by decide +kernel
theorem dX10_letter_40 : decode cX10_letter 40 = .ok (.bipush (-2), 2) := by decide +kernel
theorem dX10_letter_42 : decode cX10_letter 42 = .ok (.ireturn, 1) := by decide +kernel
set_option maxRecDepth 20000 in
theorem ggX10_occurrences_X10_isWord : GoodIn wsX10_occurrences wsX10_isWord := goodIn_r _ [6] rfl (by decide +kernel)
set_option maxRecDepth 20000 in
theorem gX10_occurrences_X10_isWord : GoodIn wsX10_occurrences (va_wsS RX10 117 yX10_isWord wsX10_isWord) := goodIn_app (goodIn_r _ [3, 4, 5] rfl (by decide +kernel)) ggX10_occurrences_X10_isWord
set_option maxRecDepth 20000 in
theorem ggX10_occurrences_X5_hasLetter : GoodIn wsX10_occurrences wsX5_hasLetter := goodIn_r _ [11, 12, 38, 39, 40, 41, 42, 43] rfl (by decide +kernel)
set_option maxRecDepth 20000 in
theorem gX10_occurrences_X5_hasLetter : GoodIn wsX10_occurrences (wsV RX10 109 RX5 yX5_hasLetter wsX5_hasLetter) := goodIn_app (goodIn_r _ [7, 8, 9, 10] rfl (by decide +kernel)) ggX10_occurrences_X5_hasLetter
set_option maxRecDepth 20000 in
theorem ggX10_occurrences_X9_hasBlock : GoodIn wsX10_occurrences wsX9_hasBlock := goodIn_r _ [17, 18, 44, 45] rfl (by decide +kernel)
set_option maxRecDepth 20000 in
theorem gX10_occurrences_X9_hasBlock : GoodIn wsX10_occurrences (wsV RX10 128 RX9 yX9_hasBlock wsX9_hasBlock) := goodIn_app (goodIn_r _ [13, 14, 15, 16] rfl (by decide +kernel)) ggX10_occurrences_X9_hasBlock
set_option maxRecDepth 20000 in
theorem ggX10_occurrences_X9_count : GoodIn wsX10_occurrences wsX9_count := goodIn_r _ [22, 23, 24, 25, 26, 18, 27, 44, 45] rfl (by decide +kernel)
set_option maxRecDepth 20000 in
theorem gX10_occurrences_X9_count : GoodIn wsX10_occurrences (wsV RX10 132 RX9 yX9_count wsX9_count) := goodIn_app (goodIn_r _ [19, 20, 21, 16] rfl (by decide +kernel)) ggX10_occurrences_X9_count
theorem dX10_occurrences_0 : decode cX10_occurrences 0 = .ok (.iload_n 1, 1) := by decide +kernel
theorem dX10_occurrences_1 : decode cX10_occurrences 1 = .ok (.invokestatic 117, 3) := by decide +kernel
theorem dX10_occurrences_4 : decode cX10_occurrences 4 = .ok (.ifCond .eq 32, 3) := by decide +kernel
theorem dX10_occurrences_7 : decode cX10_occurrences 7 = .ok (.aload_n 0, 1) := by decide +kernel
theorem dX10_occurrences_8 : decode cX10_occurrences 8 = .ok (.getfield 19, 3) := by decide +kernel
theorem dX10_occurrences_11 : decode cX10_occurrences 11 = .ok (.iload 4, 2) := by decide +kernel
theorem dX10_occurrences_13 : decode cX10_occurrences 13 = .ok (.invokevirtual 109, 3) := by decide +kernel
theorem dX10_occurrences_16 : decode cX10_occurrences 16 = .ok (.ifCond .eq 20, 3) := by decide +kernel
theorem dX10_occurrences_19 : decode cX10_occurrences 19 = .ok (.aload_n 0, 1) := by decide +kernel
theorem dX10_occurrences_20 : decode cX10_occurrences 20 = .ok (.getfield 19, 3) := by decide +kernel
theorem dX10_occurrences_23 : decode cX10_occurrences 23 = .ok (.getfield 120, 3) := by decide +kernel
theorem dX10_occurrences_26 : decode cX10_occurrences 26 = .ok (.iload_n 1, 1) := by decide +kernel
theorem dX10_occurrences_27 : decode cX10_occurrences 27 = .ok (.aaload, 1) := by decide +kernel
theorem dX10_occurrences_28 : decode cX10_occurrences 28 = .ok (.iload_n 2, 1) := by decide +kernel
theorem dX10_occurrences_29 : decode cX10_occurrences 29 = .ok (.iload_n 3, 1) := by decide +kernel
theorem dX10_occurrences_30 : decode cX10_occurrences 30 = .ok (.invokevirtual 128, 3) := by decide +kernel
theorem dX10_occurrences_33 : decode cX10_occurrences 33 = .ok (.ifCond .ne 5, 3) := by decide +kernel
theorem dX10_occurrences_36 : decode cX10_occurrences 36 = .ok (.iconst (-1), 1) := by decide +kernel
theorem dX10_occurrences_37 : decode cX10_occurrences 37 = .ok (.ireturn, 1) := by decide +kernel
theorem dX10_occurrences_38 : decode cX10_occurrences 38 = .ok (.aload_n 0, 1) := by decide +kernel
theorem dX10_occurrences_39 : decode cX10_occurrences 39 = .ok (.getfield 19, 3) := by decide +kernel
theorem dX10_occurrences_42 : decode cX10_occurrences 42 = .ok (.getfield 120, 3) := by decide +kernel
theorem dX10_occurrences_45 : decode cX10_occurrences 45 = .ok (.iload_n 1, 1) := by decide +kernel
theorem dX10_occurrences_46 : decode cX10_occurrences 46 = .ok (.aaload, 1) := by decide +kernel
theorem dX10_occurrences_47 : decode cX10_occurrences 47 = .ok (.iload 4, 2) := by decide +kernel
theorem dX10_occurrences_49 : decode cX10_occurrences 49 = .ok (.iload_n 2, 1) := by decide +kernel
theorem dX10_occurrences_50 : decode cX10_occurrences 50 = .ok (.iload_n 2, 1) := by decide +kernel
theorem dX10_occurrences_51 : decode cX10_occurrences 51 = .ok (.iload_n 3, 1) := by decide +kernel
theorem dX10_occurrences_52 : decode cX10_occurrences 52 = .ok (.iadd, 1) := by decide +kernel
theorem dX10_occurrences_53 : decode cX10_occurrences 53 = .ok (.invokevirtual 132, 3) := by decide +kernel
theorem dX10_occurrences_56 : decode cX10_occurrences 56 = .ok (.ireturn, 1) := by decide +kernel
set_option maxRecDepth 20000 in
theorem ggX10_equivalent_X10_isWord : GoodIn wsX10_equivalent wsX10_isWord := goodIn_r _ [8] rfl (by decide +kernel)
set_option maxRecDepth 20000 in
theorem gX10_equivalent_X10_isWord : GoodIn wsX10_equivalent (va_wsS RX10 117 yX10_isWord wsX10_isWord) := goodIn_app (goodIn_r _ [5, 6, 7] rfl (by decide +kernel)) ggX10_equivalent_X10_isWord
set_option maxRecDepth 20000 in
theorem ggX10_equivalent_X9_hasBlock : GoodIn wsX10_equivalent wsX9_hasBlock := goodIn_r _ [13, 14, 77, 78] rfl (by decide +kernel)
set_option maxRecDepth 20000 in
theorem gX10_equivalent_X9_hasBlock : GoodIn wsX10_equivalent (wsV RX10 128 RX9 yX9_hasBlock wsX9_hasBlock) := goodIn_app (goodIn_r _ [9, 10, 11, 12] rfl (by decide +kernel)) ggX10_equivalent_X9_hasBlock
set_option maxRecDepth 20000 in
theorem ggX10_equivalent_X8_begin : GoodIn wsX10_equivalent wsX8_begin := goodIn_r _ [19, 20, 21, 22, 23, 24, 25, 79, 80, 81, 82, 83, 84, 85, 86, 87, 71, 72, 73, 74, 75, 76] rfl (by decide +kernel)
set_option maxRecDepth 20000 in
theorem gX10_equivalent_X8_begin : GoodIn wsX10_equivalent (wsV RX10 136 RX8 yX8_begin wsX8_begin) := goodIn_app (goodIn_r _ [15, 16, 17, 18] rfl (by decide +kernel)) ggX10_equivalent_X8_begin
set_option maxRecDepth 20000 in
theorem ggX10_equivalent_X8_pushAll : GoodIn wsX10_equivalent wsX8_pushAll := goodIn_r _ [29, 30, 31, 32, 33, 34, 18, 35, 20, 36, 37, 24, 38, 39, 40, 41, 42, 21, 43, 44, 45, 46, 47, 48, 77, 78, 79, 80, 81, 82, 83, 84, 85, 86, 87] rfl (by decide +kernel)
set_option maxRecDepth 20000 in
theorem gX10_equivalent_X8_pushAll : GoodIn wsX10_equivalent (wsV RX10 140 RX8 yX8_pushAll wsX8_pushAll) := goodIn_app (goodIn_r _ [26, 27, 28, 18] rfl (by decide +kernel)) ggX10_equivalent_X8_pushAll
set_option maxRecDepth 20000 in
theorem ggX10_equivalent_X8_sameBlocks : GoodIn wsX10_equivalent wsX8_sameBlocks := goodIn_r _ [52, 21, 37, 36, 53, 54, 55, 18, 56, 57, 58, 59, 60, 47, 48, 79, 80, 81, 82, 83, 84, 85, 86, 87] rfl (by decide +kernel)
set_option maxRecDepth 20000 in
theorem gX10_equivalent_X8_sameBlocks : GoodIn wsX10_equivalent (wsV RX10 144 RX8 yX8_sameBlocks wsX8_sameBlocks) := goodIn_app (goodIn_r _ [49, 50, 51, 18] rfl (by decide +kernel)) ggX10_equivalent_X8_sameBlocks
theorem dX10_equivalent_0 : decode cX10_equivalent 0 = .ok (.iload_n 1, 1) := by decide +kernel
theorem dX10_equivalent_1 : decode cX10_equivalent 1 = .ok (.invokestatic 117, 3) := by decide +kernel
theorem dX10_equivalent_4 : decode cX10_equivalent 4 = .ok (.ifCond .ne 5, 3) := by decide +kernel
theorem dX10_equivalent_7 : decode cX10_equivalent 7 = .ok (.iconst (-1), 1) := by decide +kernel
theorem dX10_equivalent_8 : decode cX10_equivalent 8 = .ok (.ireturn, 1) := by decide +kernel
theorem dX10_equivalent_9 : decode cX10_equivalent 9 = .ok (.aload_n 0, 1) := by decide +kernel
theorem dX10_equivalent_10 : decode cX10_equivalent 10 = .ok (.getfield 19, 3) := by decide +kernel
theorem dX10_equivalent_13 : decode cX10_equivalent 13 = .ok (.getfield 120, 3) := by decide +kernel
theorem dX10_equivalent_16 : decode cX10_equivalent 16 = .ok (.iload_n 1, 1) := by decide +kernel
theorem dX10_equivalent_17 : decode cX10_equivalent 17 = .ok (.aaload, 1) := by decide +kernel
theorem dX10_equivalent_18 : decode cX10_equivalent 18 = .ok (.astore 5, 2) := by decide +kernel
theorem dX10_equivalent_20 : decode cX10_equivalent 20 = .ok (.aload 5, 2) := by decide +kernel
theorem dX10_equivalent_22 : decode cX10_equivalent 22 = .ok (.iload_n 2, 1) := by decide +kernel
theorem dX10_equivalent_23 : decode cX10_equivalent 23 = .ok (.iload 4, 2) := by decide +kernel
theorem dX10_equivalent_25 : decode cX10_equivalent 25 = .ok (.invokevirtual 128, 3) := by decide +kernel
theorem dX10_equivalent_28 : decode cX10_equivalent 28 = .ok (.ifCond .eq 14, 3) := by decide +kernel
theorem dX10_equivalent_31 : decode cX10_equivalent 31 = .ok (.aload 5, 2) := by decide +kernel
theorem dX10_equivalent_33 : decode cX10_equivalent 33 = .ok (.iload_n 3, 1) := by decide +kernel
theorem dX10_equivalent_34 : decode cX10_equivalent 34 = .ok (.iload 4, 2) := by decide +kernel
theorem dX10_equivalent_36 : decode cX10_equivalent 36 = .ok (.invokevirtual 128, 3) := by decide +kernel
theorem dX10_equivalent_39 : decode cX10_equivalent 39 = .ok (.ifCond .ne 5, 3) := by decide +kernel
theorem dX10_equivalent_42 : decode cX10_equivalent 42 = .ok (.iconst (-1), 1) := by decide +kernel
theorem dX10_equivalent_43 : decode cX10_equivalent 43 = .ok (.ireturn, 1) := by decide +kernel
theorem dX10_equivalent_44 : decode cX10_equivalent 44 = .ok (.aload_n 0, 1) := by decide +kernel
theorem dX10_equivalent_45 : decode cX10_equivalent 45 = .ok (.getfield 38, 3) := by decide +kernel
theorem dX10_equivalent_48 : decode cX10_equivalent 48 = .ok (.aload_n 0, 1) := by decide +kernel
theorem dX10_equivalent_49 : decode cX10_equivalent 49 = .ok (.getfield 19, 3) := by decide +kernel
theorem dX10_equivalent_52 : decode cX10_equivalent 52 = .ok (.getfield 97, 3) := by decide +kernel
theorem dX10_equivalent_55 : decode cX10_equivalent 55 = .ok (.aload_n 0, 1) := by decide +kernel
theorem dX10_equivalent_56 : decode cX10_equivalent 56 = .ok (.getfield 19, 3) := by decide +kernel
theorem dX10_equivalent_59 : decode cX10_equivalent 59 = .ok (.invokevirtual 136, 3) := by decide +kernel
theorem dX10_equivalent_62 : decode cX10_equivalent 62 = .ok (.aload_n 0, 1) := by decide +kernel
theorem dX10_equivalent_63 : decode cX10_equivalent 63 = .ok (.getfield 38, 3) := by decide +kernel
theorem dX10_equivalent_66 : decode cX10_equivalent 66 = .ok (.aload 5, 2) := by decide +kernel
theorem dX10_equivalent_68 : decode cX10_equivalent 68 = .ok (.invokevirtual 140, 3) := by decide +kernel
theorem dX10_equivalent_71 : decode cX10_equivalent 71 = .ok (.aload_n 0, 1) := by decide +kernel
theorem dX10_equivalent_72 : decode cX10_equivalent 72 = .ok (.getfield 38, 3) := by decide +kernel
theorem dX10_equivalent_75 : decode cX10_equivalent 75 = .ok (.iload_n 2, 1) := by decide +kernel
theorem dX10_equivalent_76 : decode cX10_equivalent 76 = .ok (.iload_n 3, 1) := by decide +kernel
theorem dX10_equivalent_77 : decode cX10_equivalent 77 = .ok (.iload 4, 2) := by decide +kernel
theorem dX10_equivalent_79 : decode cX10_equivalent 79 = .ok (.invokevirtual 144, 3) := by decide +kernel
theorem dX10_equivalent_82 : decode cX10_equivalent 82 = .ok (.ifCond .eq 7, 3) := by decide +kernel
theorem dX10_equivalent_85 : decode cX10_equivalent 85 = .ok (.iconst 1, 1) := by decide +kernel
theorem dX10_equivalent_86 : decode cX10_equivalent 86 = .ok (.goto 4, 3) := by decide +kernel
theorem dX10_equivalent_89 : decode cX10_equivalent 89 = .ok (.iconst 0, 1) := by decide +kernel
theorem dX10_equivalent_90 : decode cX10_equivalent 90 = .ok (.ireturn, 1) := by decide +kernel
set_option maxRecDepth 20000 in
theorem ggX10_firstPower_X10_isWord : GoodIn wsX10_firstPower wsX10_isWord := goodIn_r _ [9] rfl (by decide +kernel)
set_option maxRecDepth 20000 in
theorem gX10_firstPower_X10_isWord : GoodIn wsX10_firstPower (va_wsS RX10 117 yX10_isWord wsX10_isWord) := goodIn_app (goodIn_r _ [6, 7, 8] rfl (by decide +kernel)) ggX10_firstPower_X10_isWord
set_option maxRecDepth 20000 in
theorem ggX10_firstPower_X10_pushUpToPower : GoodIn wsX10_firstPower wsX10_pushUpToPower := goodIn_r _ [13, 3, 1, 14, 15, 16, 17, 18, 19, 20, 21, 22, 23, 24, 25, 26, 27, 28, 29, 30, 31, 32, 33, 34, 35, 36, 37, 38, 39, 40, 41, 42, 43, 44, 45, 46, 47, 48, 49, 50, 51, 52, 53, 54, 55, 56, 57, 58, 59, 60, 61, 62, 63, 64, 65, 66, 67, 68, 69, 70, 71, 72, 73, 74, 75, 76, 77, 78, 79, 80, 90, 91, 81, 82, 83, 84, 85, 86, 87, 88, 89] rfl (by decide +kernel)
set_option maxRecDepth 20000 in
theorem gX10_firstPower_X10_pushUpToPower : GoodIn wsX10_firstPower (wsV RX10 148 RX10 yX10_pushUpToPower wsX10_pushUpToPower) := goodIn_app (goodIn_r _ [10, 11, 12, 8] rfl (by decide +kernel)) ggX10_firstPower_X10_pushUpToPower
theorem dX10_firstPower_0 : decode cX10_firstPower 0 = .ok (.iload_n 1, 1) := by decide +kernel
theorem dX10_firstPower_1 : decode cX10_firstPower 1 = .ok (.invokestatic 117, 3) := by decide +kernel
theorem dX10_firstPower_4 : decode cX10_firstPower 4 = .ok (.ifCond .ne 5, 3) := by decide +kernel
theorem dX10_firstPower_7 : decode cX10_firstPower 7 = .ok (.iconst (-1), 1) := by decide +kernel
theorem dX10_firstPower_8 : decode cX10_firstPower 8 = .ok (.ireturn, 1) := by decide +kernel
theorem dX10_firstPower_9 : decode cX10_firstPower 9 = .ok (.aload_n 0, 1) := by decide +kernel
theorem dX10_firstPower_10 : decode cX10_firstPower 10 = .ok (.aload_n 0, 1) := by decide +kernel
theorem dX10_firstPower_11 : decode cX10_firstPower 11 = .ok (.getfield 19, 3) := by decide +kernel
theorem dX10_firstPower_14 : decode cX10_firstPower 14 = .ok (.getfield 120, 3) := by decide +kernel
theorem dX10_firstPower_17 : decode cX10_firstPower 17 = .ok (.iload_n 1, 1) := by decide +kernel
theorem dX10_firstPower_18 : decode cX10_firstPower 18 = .ok (.aaload, 1) := by decide +kernel
theorem dX10_firstPower_19 : decode cX10_firstPower 19 = .ok (.invokevirtual 148, 3) := by decide +kernel
theorem dX10_firstPower_22 : decode cX10_firstPower 22 = .ok (.istore_n 2, 1) := by decide +kernel
theorem dX10_firstPower_23 : decode cX10_firstPower 23 = .ok (.iload_n 2, 1) := by decide +kernel
theorem dX10_firstPower_24 : decode cX10_firstPower 24 = .ok (.ifCond .ne 6, 3) := by decide +kernel
theorem dX10_firstPower_27 : decode cX10_firstPower 27 = .ok (.bipush (-2), 2) := by decide +kernel
theorem dX10_firstPower_29 : decode cX10_firstPower 29 = .ok (.ireturn, 1) := by decide +kernel
theorem dX10_firstPower_30 : decode cX10_firstPower 30 = .ok (.bipush 100, 2) := by decide +kernel
theorem dX10_firstPower_32 : decode cX10_firstPower 32 = .ok (.aload_n 0, 1) := by decide +kernel
theorem dX10_firstPower_33 : decode cX10_firstPower 33 = .ok (.getfield 38, 3) := by decide +kernel
theorem dX10_firstPower_36 : decode cX10_firstPower 36 = .ok (.getfield 152, 3) := by decide +kernel
theorem dX10_firstPower_39 : decode cX10_firstPower 39 = .ok (.aload_n 0, 1) := by decide +kernel
theorem dX10_firstPower_40 : decode cX10_firstPower 40 = .ok (.getfield 19, 3) := by decide +kernel
theorem dX10_firstPower_43 : decode cX10_firstPower 43 = .ok (.getfield 100, 3) := by decide +kernel
theorem dX10_firstPower_46 : decode cX10_firstPower 46 = .ok (.iload_n 2, 1) := by decide +kernel
theorem dX10_firstPower_47 : decode cX10_firstPower 47 = .ok (.imul, 1) := by decide +kernel
theorem dX10_firstPower_48 : decode cX10_firstPower 48 = .ok (.isub, 1) := by decide +kernel
theorem dX10_firstPower_49 : decode cX10_firstPower 49 = .ok (.imul, 1) := by decide +kernel
theorem dX10_firstPower_50 : decode cX10_firstPower 50 = .ok (.iload_n 2, 1) := by decide +kernel
theorem dX10_firstPower_51 : decode cX10_firstPower 51 = .ok (.iadd, 1) := by decide +kernel
theorem dX10_firstPower_52 : decode cX10_firstPower 52 = .ok (.ireturn, 1) := by decide +kernel
set_option maxRecDepth 20000 in
theorem ggX10_powerCount_X10_isWord : GoodIn wsX10_powerCount wsX10_isWord := goodIn_r _ [10] rfl (by decide +kernel)
set_option maxRecDepth 20000 in
theorem gX10_powerCount_X10_isWord : GoodIn wsX10_powerCount (va_wsS RX10 117 yX10_isWord wsX10_isWord) := goodIn_app (goodIn_r _ [7, 8, 9] rfl (by decide +kernel)) ggX10_powerCount_X10_isWord
set_option maxRecDepth 20000 in
theorem ggX10_powerCount_X8_begin : GoodIn wsX10_powerCount wsX8_begin := goodIn_r _ [15, 16, 17, 18, 19, 20, 21, 77, 78, 79, 80, 81, 82, 83, 84, 85, 69, 70, 71, 72, 73, 74] rfl (by decide +kernel)
set_option maxRecDepth 20000 in
theorem gX10_powerCount_X8_begin : GoodIn wsX10_powerCount (wsV RX10 136 RX8 yX8_begin wsX8_begin) := goodIn_app (goodIn_r _ [11, 12, 13, 14] rfl (by decide +kernel)) ggX10_powerCount_X8_begin
set_option maxRecDepth 20000 in
theorem ggX10_powerCount_X8_push : GoodIn wsX10_powerCount wsX8_push := goodIn_r _ [25, 16, 26, 27, 20, 28, 29, 30, 31, 32, 17, 33, 34, 35, 14, 36, 37, 38, 77, 78, 79, 80, 81, 82, 83, 84, 85] rfl (by decide +kernel)
set_option maxRecDepth 20000 in
theorem gX10_powerCount_X8_push : GoodIn wsX10_powerCount (wsV RX10 153 RX8 yX8_push wsX8_push) := goodIn_app (goodIn_r _ [22, 23, 24, 14] rfl (by decide +kernel)) ggX10_powerCount_X8_push
set_option maxRecDepth 20000 in
theorem ggX10_powerCount_X8_powersAtEnd : GoodIn wsX10_powerCount wsX8_powersAtEnd := goodIn_r _ [42, 16, 19, 43, 44, 45, 14, 46, 47, 48, 49, 50, 17, 27, 26, 51, 52, 53, 54, 55, 56, 57, 58, 37, 38, 77, 78, 79, 80, 81, 82, 83, 84, 85] rfl (by decide +kernel)
set_option maxRecDepth 20000 in
theorem gX10_powerCount_X8_powersAtEnd : GoodIn wsX10_powerCount (wsV RX10 156 RX8 yX8_powersAtEnd wsX8_powersAtEnd) := goodIn_app (goodIn_r _ [39, 40, 41, 14] rfl (by decide +kernel)) ggX10_powerCount_X8_powersAtEnd
theorem dX10_powerCount_0 : decode cX10_powerCount 0 = .ok (.iload_n 1, 1) := by decide +kernel
theorem dX10_powerCount_1 : decode cX10_powerCount 1 = .ok (.invokestatic 117, 3) := by decide +kernel
theorem dX10_powerCount_4 : decode cX10_powerCount 4 = .ok (.ifCond .ne 5, 3) := by decide +kernel
theorem dX10_powerCount_7 : decode cX10_powerCount 7 = .ok (.iconst (-1), 1) := by decide +kernel
theorem dX10_powerCount_8 : decode cX10_powerCount 8 = .ok (.ireturn, 1) := by decide +kernel
theorem dX10_powerCount_9 : decode cX10_powerCount 9 = .ok (.aload_n 0, 1) := by decide +kernel
theorem dX10_powerCount_10 : decode cX10_powerCount 10 = .ok (.getfield 19, 3) := by decide +kernel
theorem dX10_powerCount_13 : decode cX10_powerCount 13 = .ok (.getfield 120, 3) := by decide +kernel
theorem dX10_powerCount_16 : decode cX10_powerCount 16 = .ok (.iload_n 1, 1) := by decide +kernel
theorem dX10_powerCount_17 : decode cX10_powerCount 17 = .ok (.aaload, 1) := by decide +kernel
theorem dX10_powerCount_18 : decode cX10_powerCount 18 = .ok (.astore_n 2, 1) := by decide +kernel
theorem dX10_powerCount_19 : decode cX10_powerCount 19 = .ok (.aload_n 0, 1) := by decide +kernel
theorem dX10_powerCount_20 : decode cX10_powerCount 20 = .ok (.getfield 38, 3) := by decide +kernel
theorem dX10_powerCount_23 : decode cX10_powerCount 23 = .ok (.aload_n 0, 1) := by decide +kernel
theorem dX10_powerCount_24 : decode cX10_powerCount 24 = .ok (.getfield 19, 3) := by decide +kernel
theorem dX10_powerCount_27 : decode cX10_powerCount 27 = .ok (.getfield 97, 3) := by decide +kernel
theorem dX10_powerCount_30 : decode cX10_powerCount 30 = .ok (.aload_n 0, 1) := by decide +kernel
theorem dX10_powerCount_31 : decode cX10_powerCount 31 = .ok (.getfield 19, 3) := by decide +kernel
theorem dX10_powerCount_34 : decode cX10_powerCount 34 = .ok (.invokevirtual 136, 3) := by decide +kernel
theorem dX10_powerCount_37 : decode cX10_powerCount 37 = .ok (.iconst 0, 1) := by decide +kernel
theorem dX10_powerCount_38 : decode cX10_powerCount 38 = .ok (.istore_n 3, 1) := by decide +kernel
theorem dX10_powerCount_39 : decode cX10_powerCount 39 = .ok (.iconst 0, 1) := by decide +kernel
theorem dX10_powerCount_40 : decode cX10_powerCount 40 = .ok (.istore 4, 2) := by decide +kernel
theorem dX10_powerCount_42 : decode cX10_powerCount 42 = .ok (.iload 4, 2) := by decide +kernel
theorem dX10_powerCount_44 : decode cX10_powerCount 44 = .ok (.aload_n 2, 1) := by decide +kernel
theorem dX10_powerCount_45 : decode cX10_powerCount 45 = .ok (.getfield 124, 3) := by decide +kernel
theorem dX10_powerCount_48 : decode cX10_powerCount 48 = .ok (.if_icmp .ge 33, 3) := by decide +kernel
theorem dX10_powerCount_51 : decode cX10_powerCount 51 = .ok (.aload_n 0, 1) := by decide +kernel
theorem dX10_powerCount_52 : decode cX10_powerCount 52 = .ok (.getfield 38, 3) := by decide +kernel
theorem dX10_powerCount_55 : decode cX10_powerCount 55 = .ok (.aload_n 2, 1) := by decide +kernel
theorem dX10_powerCount_56 : decode cX10_powerCount 56 = .ok (.getfield 126, 3) := by decide +kernel
theorem dX10_powerCount_59 : decode cX10_powerCount 59 = .ok (.iload 4, 2) := by decide +kernel
theorem dX10_powerCount_61 : decode cX10_powerCount 61 = .ok (.iaload, 1) := by decide +kernel
theorem dX10_powerCount_62 : decode cX10_powerCount 62 = .ok (.invokevirtual 153, 3) := by decide +kernel
theorem dX10_powerCount_65 : decode cX10_powerCount 65 = .ok (.iload_n 3, 1) := by decide +kernel
theorem dX10_powerCount_66 : decode cX10_powerCount 66 = .ok (.aload_n 0, 1) := by decide +kernel
theorem dX10_powerCount_67 : decode cX10_powerCount 67 = .ok (.getfield 38, 3) := by decide +kernel
theorem dX10_powerCount_70 : decode cX10_powerCount 70 = .ok (.invokevirtual 156, 3) := by decide +kernel
theorem dX10_powerCount_73 : decode cX10_powerCount 73 = .ok (.iadd, 1) := by decide +kernel
theorem dX10_powerCount_74 : decode cX10_powerCount 74 = .ok (.istore_n 3, 1) := by decide +kernel
theorem dX10_powerCount_75 : decode cX10_powerCount 75 = .ok (.iinc 4 1, 3) := by decide +kernel
theorem dX10_powerCount_78 : decode cX10_powerCount 78 = .ok (.goto (-36), 3) := by decide +kernel
theorem dX10_powerCount_81 : decode cX10_powerCount 81 = .ok (.iload_n 3, 1) := by decide +kernel
theorem dX10_powerCount_82 : decode cX10_powerCount 82 = .ok (.ireturn, 1) := by decide +kernel
set_option maxRecDepth 20000 in
theorem ggX10_freePrefix_X10_isWord : GoodIn wsX10_freePrefix wsX10_isWord := goodIn_r _ [8] rfl (by decide +kernel)
set_option maxRecDepth 20000 in
theorem gX10_freePrefix_X10_isWord : GoodIn wsX10_freePrefix (va_wsS RX10 117 yX10_isWord wsX10_isWord) := goodIn_app (goodIn_r _ [5, 6, 7] rfl (by decide +kernel)) ggX10_freePrefix_X10_isWord
set_option maxRecDepth 20000 in
theorem ggX10_freePrefix_X10_pushUpToPower : GoodIn wsX10_freePrefix wsX10_pushUpToPower := goodIn_r _ [12, 3, 1, 13, 14, 15, 16, 17, 18, 19, 20, 21, 22, 23, 24, 25, 26, 27, 28, 29, 30, 31, 32, 33, 34, 35, 36, 37, 38, 39, 40, 41, 42, 43, 44, 45, 46, 47, 48, 49, 50, 51, 52, 53, 54, 55, 56, 57, 58, 59, 60, 61, 62, 63, 64, 65, 66, 67, 68, 69, 70, 71, 72, 73, 74, 75, 76, 77, 78, 79, 89, 90, 80, 81, 82, 83, 84, 85, 86, 87, 88] rfl (by decide +kernel)
set_option maxRecDepth 20000 in
theorem gX10_freePrefix_X10_pushUpToPower : GoodIn wsX10_freePrefix (wsV RX10 148 RX10 yX10_pushUpToPower wsX10_pushUpToPower) := goodIn_app (goodIn_r _ [9, 10, 11, 7] rfl (by decide +kernel)) ggX10_freePrefix_X10_pushUpToPower
theorem dX10_freePrefix_0 : decode cX10_freePrefix 0 = .ok (.iload_n 1, 1) := by decide +kernel
theorem dX10_freePrefix_1 : decode cX10_freePrefix 1 = .ok (.invokestatic 117, 3) := by decide +kernel
theorem dX10_freePrefix_4 : decode cX10_freePrefix 4 = .ok (.ifCond .ne 5, 3) := by decide +kernel
theorem dX10_freePrefix_7 : decode cX10_freePrefix 7 = .ok (.iconst (-1), 1) := by decide +kernel
theorem dX10_freePrefix_8 : decode cX10_freePrefix 8 = .ok (.ireturn, 1) := by decide +kernel
theorem dX10_freePrefix_9 : decode cX10_freePrefix 9 = .ok (.aload_n 0, 1) := by decide +kernel
theorem dX10_freePrefix_10 : decode cX10_freePrefix 10 = .ok (.aload_n 0, 1) := by decide +kernel
theorem dX10_freePrefix_11 : decode cX10_freePrefix 11 = .ok (.getfield 19, 3) := by decide +kernel
theorem dX10_freePrefix_14 : decode cX10_freePrefix 14 = .ok (.getfield 120, 3) := by decide +kernel
theorem dX10_freePrefix_17 : decode cX10_freePrefix 17 = .ok (.iload_n 1, 1) := by decide +kernel
theorem dX10_freePrefix_18 : decode cX10_freePrefix 18 = .ok (.aaload, 1) := by decide +kernel
theorem dX10_freePrefix_19 : decode cX10_freePrefix 19 = .ok (.invokevirtual 148, 3) := by decide +kernel
theorem dX10_freePrefix_22 : decode cX10_freePrefix 22 = .ok (.istore_n 2, 1) := by decide +kernel
theorem dX10_freePrefix_23 : decode cX10_freePrefix 23 = .ok (.iload_n 2, 1) := by decide +kernel
theorem dX10_freePrefix_24 : decode cX10_freePrefix 24 = .ok (.ifCond .ne 13, 3) := by decide +kernel
theorem dX10_freePrefix_27 : decode cX10_freePrefix 27 = .ok (.aload_n 0, 1) := by decide +kernel
theorem dX10_freePrefix_28 : decode cX10_freePrefix 28 = .ok (.getfield 38, 3) := by decide +kernel
theorem dX10_freePrefix_31 : decode cX10_freePrefix 31 = .ok (.getfield 152, 3) := by decide +kernel
theorem dX10_freePrefix_34 : decode cX10_freePrefix 34 = .ok (.goto 12, 3) := by decide +kernel
theorem dX10_freePrefix_37 : decode cX10_freePrefix 37 = .ok (.aload_n 0, 1) := by decide +kernel
theorem dX10_freePrefix_38 : decode cX10_freePrefix 38 = .ok (.getfield 38, 3) := by decide +kernel
theorem dX10_freePrefix_41 : decode cX10_freePrefix 41 = .ok (.getfield 152, 3) := by decide +kernel
