theorem dX11_clearWord_21 : decode cX11_clearWord 21 = .ok (.iconst 0, 1) := by decide +kernel
theorem dX11_clearWord_22 : decode cX11_clearWord 22 = .ok (.iastore, 1) := by decide +kernel
theorem dX11_clearWord_23 : decode cX11_clearWord 23 = .ok (.iload_n 2, 1) := by decide +kernel
theorem dX11_clearWord_24 : decode cX11_clearWord 24 = .ok (.ireturn, 1) := by decide +kernel
set_option maxRecDepth 20000 in
theorem ggX11_length_X11_isWord : GoodIn wsX11_length wsX11_isWord := goodIn_r _ [5, 6, 7, 4, 8] rfl (by decide +kernel)
set_option maxRecDepth 20000 in
theorem gX11_length_X11_isWord : GoodIn wsX11_length (va_wsS RX11 115 yX11_isWord wsX11_isWord) := goodIn_app (goodIn_r _ [2, 3, 4] rfl (by decide +kernel)) ggX11_length_X11_isWord
theorem dX11_length_0 : decode cX11_length 0 = .ok (.iload_n 1, 1) := by decide +kernel
theorem dX11_length_1 : decode cX11_length 1 = .ok (.invokestatic 115, 3) := by decide +kernel
theorem dX11_length_4 : decode cX11_length 4 = .ok (.ifCond .eq 12, 3) := by decide +kernel
theorem dX11_length_7 : decode cX11_length 7 = .ok (.aload_n 0, 1) := by decide +kernel
theorem dX11_length_8 : decode cX11_length 8 = .ok (.getfield 26, 3) := by decide +kernel
theorem dX11_length_11 : decode cX11_length 11 = .ok (.iload_n 1, 1) := by decide +kernel
theorem dX11_length_12 : decode cX11_length 12 = .ok (.iaload, 1) := by decide +kernel
theorem dX11_length_13 : decode cX11_length 13 = .ok (.goto 4, 3) := by decide +kernel
theorem dX11_length_16 : decode cX11_length 16 = .ok (.iconst (-1), 1) := by decide +kernel
theorem dX11_length_17 : decode cX11_length 17 = .ok (.ireturn, 1) := by decide +kernel
set_option maxRecDepth 20000 in
theorem ggX11_letter_X11_isWord : GoodIn wsX11_letter wsX11_isWord := goodIn_r _ [6, 7, 8, 5, 9] rfl (by decide +kernel)
set_option maxRecDepth 20000 in
theorem gX11_letter_X11_isWord : GoodIn wsX11_letter (va_wsS RX11 115 yX11_isWord wsX11_isWord) := goodIn_app (goodIn_r _ [3, 4, 5] rfl (by decide +kernel)) ggX11_letter_X11_isWord
set_option maxRecDepth 20000 in
theorem ggX11_letter_X11_isIn : GoodIn wsX11_letter wsX11_isIn := goodIn_r _ [9] rfl (by decide +kernel)
set_option maxRecDepth 20000 in
theorem gX11_letter_X11_isIn : GoodIn wsX11_letter (va_wsS RX11 85 yX11_isIn wsX11_isIn) := goodIn_app (goodIn_r _ [7, 8, 5] rfl (by decide +kernel)) ggX11_letter_X11_isIn
theorem dX11_letter_0 : decode cX11_letter 0 = .ok (.iload_n 1, 1) := by decide +kernel
theorem dX11_letter_1 : decode cX11_letter 1 = .ok (.invokestatic 115, 3) := by decide +kernel
theorem dX11_letter_4 : decode cX11_letter 4 = .ok (.ifCond .ne 7, 3) := by decide +kernel
theorem dX11_letter_7 : decode cX11_letter 7 = .ok (.iconst (-1), 1) := by decide +kernel
theorem dX11_letter_8 : decode cX11_letter 8 = .ok (.goto 35, 3) := by decide +kernel
theorem dX11_letter_11 : decode cX11_letter 11 = .ok (.iload_n 2, 1) := by decide +kernel
theorem dX11_letter_12 : decode cX11_letter 12 = .ok (.iconst 0, 1) := by decide +kernel
theorem dX11_letter_13 : decode cX11_letter 13 = .ok (.aload_n 0, 1) := by decide +kernel
theorem dX11_letter_14 : decode cX11_letter 14 = .ok (.getfield 26, 3) := by decide +kernel
theorem dX11_letter_17 : decode cX11_letter 17 = .ok (.iload_n 1, 1) := by decide +kernel
theorem dX11_letter_18 : decode cX11_letter 18 = .ok (.iaload, 1) := by decide +kernel
theorem dX11_letter_19 : decode cX11_letter 19 = .ok (.iconst 1, 1) := by decide +kernel
theorem dX11_letter_20 : decode cX11_letter 20 = .ok (.isub, 1) := by decide +kernel
theorem dX11_letter_21 : decode cX11_letter 21 = .ok (.invokestatic 85, 3) := by decide +kernel
theorem dX11_letter_24 : decode cX11_letter 24 = .ok (.ifCond .eq 17, 3) := by decide +kernel
theorem dX11_letter_27 : decode cX11_letter 27 = .ok (.aload_n 0, 1) := by decide +kernel
theorem dX11_letter_28 : decode cX11_letter 28 = .ok (.getfield 23, 3) := by decide +kernel
theorem dX11_letter_31 : decode cX11_letter 31 = .ok (.bipush 40, 2) := by decide +kernel
theorem dX11_letter_33 : decode cX11_letter 33 = .ok (.iload_n 1, 1) := by decide +kernel
theorem dX11_letter_34 : decode cX11_letter 34 = .ok (.imul, 1) := by decide +kernel
theorem dX11_letter_35 : decode cX11_letter 35 = .ok (.iload_n 2, 1) := by decide +kernel
theorem dX11_letter_36 : decode cX11_letter 36 = .ok (.iadd, 1) := by decide +kernel
theorem dX11_letter_37 : decode cX11_letter 37 = .ok (.iaload, 1) := by decide +kernel
theorem dX11_letter_38 : decode cX11_letter 38 = .ok (.goto 5, 3) := by decide +kernel
theorem dX11_letter_41 : decode cX11_letter 41 = .ok (.bipush (-2), 2) := by decide +kernel
theorem dX11_letter_43 : decode cX11_letter 43 = .ok (.ireturn, 1) := by decide +kernel
set_option maxRecDepth 20000 in
theorem ggX11_isBlock_X11_isWord : GoodIn wsX11_isBlock wsX11_isWord := goodIn_r _ [5, 6, 7, 4, 8] rfl (by decide +kernel)
set_option maxRecDepth 20000 in
theorem gX11_isBlock_X11_isWord : GoodIn wsX11_isBlock (va_wsS RX11 115 yX11_isWord wsX11_isWord) := goodIn_app (goodIn_r _ [2, 3, 4] rfl (by decide +kernel)) ggX11_isBlock_X11_isWord
theorem dX11_isBlock_0 : decode cX11_isBlock 0 = .ok (.iload_n 1, 1) := by decide +kernel
theorem dX11_isBlock_1 : decode cX11_isBlock 1 = .ok (.invokestatic 115, 3) := by decide +kernel
theorem dX11_isBlock_4 : decode cX11_isBlock 4 = .ok (.ifCond .eq 37, 3) := by decide +kernel
theorem dX11_isBlock_7 : decode cX11_isBlock 7 = .ok (.iload_n 2, 1) := by decide +kernel
theorem dX11_isBlock_8 : decode cX11_isBlock 8 = .ok (.ifCond .lt 33, 3) := by decide +kernel
theorem dX11_isBlock_11 : decode cX11_isBlock 11 = .ok (.iload_n 3, 1) := by decide +kernel
theorem dX11_isBlock_12 : decode cX11_isBlock 12 = .ok (.ifCond .lt 29, 3) := by decide +kernel
theorem dX11_isBlock_15 : decode cX11_isBlock 15 = .ok (.iload_n 2, 1) := by decide +kernel
theorem dX11_isBlock_16 : decode cX11_isBlock 16 = .ok (.aload_n 0, 1) := by decide +kernel
theorem dX11_isBlock_17 : decode cX11_isBlock 17 = .ok (.getfield 26, 3) := by decide +kernel
theorem dX11_isBlock_20 : decode cX11_isBlock 20 = .ok (.iload_n 1, 1) := by decide +kernel
theorem dX11_isBlock_21 : decode cX11_isBlock 21 = .ok (.iaload, 1) := by decide +kernel
theorem dX11_isBlock_22 : decode cX11_isBlock 22 = .ok (.if_icmp .gt 19, 3) := by decide +kernel
theorem dX11_isBlock_25 : decode cX11_isBlock 25 = .ok (.iload_n 3, 1) := by decide +kernel
theorem dX11_isBlock_26 : decode cX11_isBlock 26 = .ok (.aload_n 0, 1) := by decide +kernel
theorem dX11_isBlock_27 : decode cX11_isBlock 27 = .ok (.getfield 26, 3) := by decide +kernel
theorem dX11_isBlock_30 : decode cX11_isBlock 30 = .ok (.iload_n 1, 1) := by decide +kernel
theorem dX11_isBlock_31 : decode cX11_isBlock 31 = .ok (.iaload, 1) := by decide +kernel
theorem dX11_isBlock_32 : decode cX11_isBlock 32 = .ok (.iload_n 2, 1) := by decide +kernel
theorem dX11_isBlock_33 : decode cX11_isBlock 33 = .ok (.isub, 1) := by decide +kernel
theorem dX11_isBlock_34 : decode cX11_isBlock 34 = .ok (.if_icmp .gt 7, 3) := by decide +kernel
theorem dX11_isBlock_37 : decode cX11_isBlock 37 = .ok (.iconst 1, 1) := by decide +kernel
theorem dX11_isBlock_38 : decode cX11_isBlock 38 = .ok (.goto 4, 3) := by decide +kernel
theorem dX11_isBlock_41 : decode cX11_isBlock 41 = .ok (.iconst 0, 1) := by decide +kernel
theorem dX11_isBlock_42 : decode cX11_isBlock 42 = .ok (.ireturn, 1) := by decide +kernel
theorem dX11_take_0 : decode cX11_take 0 = .ok (.aload_n 0, 1) := by decide +kernel
theorem dX11_take_1 : decode cX11_take 1 = .ok (.aload_n 0, 1) := by decide +kernel
theorem dX11_take_2 : decode cX11_take 2 = .ok (.getfield 26, 3) := by decide +kernel
theorem dX11_take_5 : decode cX11_take 5 = .ok (.iload_n 1, 1) := by decide +kernel
theorem dX11_take_6 : decode cX11_take 6 = .ok (.iaload, 1) := by decide +kernel
theorem dX11_take_7 : decode cX11_take 7 = .ok (.putfield 118, 3) := by decide +kernel
theorem dX11_take_10 : decode cX11_take 10 = .ok (.iconst 0, 1) := by decide +kernel
theorem dX11_take_11 : decode cX11_take 11 = .ok (.istore_n 2, 1) := by decide +kernel
theorem dX11_take_12 : decode cX11_take 12 = .ok (.iload_n 2, 1) := by decide +kernel
theorem dX11_take_13 : decode cX11_take 13 = .ok (.aload_n 0, 1) := by decide +kernel
theorem dX11_take_14 : decode cX11_take 14 = .ok (.getfield 118, 3) := by decide +kernel
theorem dX11_take_17 : decode cX11_take 17 = .ok (.if_icmp .ge 26, 3) := by decide +kernel
theorem dX11_take_20 : decode cX11_take 20 = .ok (.aload_n 0, 1) := by decide +kernel
theorem dX11_take_21 : decode cX11_take 21 = .ok (.getfield 38, 3) := by decide +kernel
theorem dX11_take_24 : decode cX11_take 24 = .ok (.iload_n 2, 1) := by decide +kernel
theorem dX11_take_25 : decode cX11_take 25 = .ok (.aload_n 0, 1) := by decide +kernel
theorem dX11_take_26 : decode cX11_take 26 = .ok (.getfield 23, 3) := by decide +kernel
theorem dX11_take_29 : decode cX11_take 29 = .ok (.bipush 40, 2) := by decide +kernel
theorem dX11_take_31 : decode cX11_take 31 = .ok (.iload_n 1, 1) := by decide +kernel
theorem dX11_take_32 : decode cX11_take 32 = .ok (.imul, 1) := by decide +kernel
theorem dX11_take_33 : decode cX11_take 33 = .ok (.iload_n 2, 1) := by decide +kernel
theorem dX11_take_34 : decode cX11_take 34 = .ok (.iadd, 1) := by decide +kernel
theorem dX11_take_35 : decode cX11_take 35 = .ok (.iaload, 1) := by decide +kernel
theorem dX11_take_36 : decode cX11_take 36 = .ok (.iastore, 1) := by decide +kernel
theorem dX11_take_37 : decode cX11_take 37 = .ok (.iinc 2 1, 3) := by decide +kernel
theorem dX11_take_40 : decode cX11_take 40 = .ok (.goto (-28), 3) := by decide +kernel
theorem dX11_take_43 : decode cX11_take 43 = .ok (.return_, 1) := by decide +kernel
theorem dX11_count_0 : decode cX11_count 0 = .ok (.iconst 0, 1) := by decide +kernel
theorem dX11_count_1 : decode cX11_count 1 = .ok (.istore 4, 2) := by decide +kernel
theorem dX11_count_3 : decode cX11_count 3 = .ok (.iload_n 1, 1) := by decide +kernel
theorem dX11_count_4 : decode cX11_count 4 = .ok (.istore 5, 2) := by decide +kernel
theorem dX11_count_6 : decode cX11_count 6 = .ok (.iload 5, 2) := by decide +kernel
theorem dX11_count_8 : decode cX11_count 8 = .ok (.iload_n 1, 1) := by decide +kernel
theorem dX11_count_9 : decode cX11_count 9 = .ok (.iload_n 2, 1) := by decide +kernel
theorem dX11_count_10 : decode cX11_count 10 = .ok (.iadd, 1) := by decide +kernel
theorem dX11_count_11 : decode cX11_count 11 = .ok (.if_icmp .ge 30, 3) := by decide +kernel
theorem dX11_count_14 : decode cX11_count 14 = .ok (.iload 4, 2) := by decide +kernel
theorem dX11_count_16 : decode cX11_count 16 = .ok (.aload_n 0, 1) := by decide +kernel
theorem dX11_count_17 : decode cX11_count 17 = .ok (.getfield 38, 3) := by decide +kernel
theorem dX11_count_20 : decode cX11_count 20 = .ok (.iload 5, 2) := by decide +kernel
theorem dX11_count_22 : decode cX11_count 22 = .ok (.iaload, 1) := by decide +kernel
theorem dX11_count_23 : decode cX11_count 23 = .ok (.iload_n 3, 1) := by decide +kernel
theorem dX11_count_24 : decode cX11_count 24 = .ok (.if_icmp .ne 7, 3) := by decide +kernel
theorem dX11_count_27 : decode cX11_count 27 = .ok (.iconst 1, 1) := by decide +kernel
theorem dX11_count_28 : decode cX11_count 28 = .ok (.goto 4, 3) := by decide +kernel
theorem dX11_count_31 : decode cX11_count 31 = .ok (.iconst 0, 1) := by decide +kernel
theorem dX11_count_32 : decode cX11_count 32 = .ok (.iadd, 1) := by decide +kernel
theorem dX11_count_33 : decode cX11_count 33 = .ok (.istore 4, 2) := by decide +kernel
theorem dX11_count_35 : decode cX11_count 35 = .ok (.iinc 5 1, 3) := by decide +kernel
theorem dX11_count_38 : decode cX11_count 38 = .ok (.goto (-32), 3) := by decide +kernel
theorem dX11_count_41 : decode cX11_count 41 = .ok (.iload 4, 2) := by decide +kernel
theorem dX11_count_43 : decode cX11_count 43 = .ok (.ireturn, 1) := by decide +kernel
theorem dX11_countPairs_0 : decode cX11_countPairs 0 = .ok (.iconst 0, 1) := by decide +kernel
theorem dX11_countPairs_1 : decode cX11_countPairs 1 = .ok (.istore 5, 2) := by decide +kernel
theorem dX11_countPairs_3 : decode cX11_countPairs 3 = .ok (.iload_n 1, 1) := by decide +kernel
theorem dX11_countPairs_4 : decode cX11_countPairs 4 = .ok (.istore 6, 2) := by decide +kernel
theorem dX11_countPairs_6 : decode cX11_countPairs 6 = .ok (.iload 6, 2) := by decide +kernel
theorem dX11_countPairs_8 : decode cX11_countPairs 8 = .ok (.iconst 1, 1) := by decide +kernel
theorem dX11_countPairs_9 : decode cX11_countPairs 9 = .ok (.iadd, 1) := by decide +kernel
theorem dX11_countPairs_10 : decode cX11_countPairs 10 = .ok (.iload_n 1, 1) := by decide +kernel
theorem dX11_countPairs_11 : decode cX11_countPairs 11 = .ok (.iload_n 2, 1) := by decide +kernel
theorem dX11_countPairs_12 : decode cX11_countPairs 12 = .ok (.iadd, 1) := by decide +kernel
theorem dX11_countPairs_13 : decode cX11_countPairs 13 = .ok (.if_icmp .ge 44, 3) := by decide +kernel
theorem dX11_countPairs_16 : decode cX11_countPairs 16 = .ok (.iload 5, 2) := by decide +kernel
theorem dX11_countPairs_18 : decode cX11_countPairs 18 = .ok (.aload_n 0, 1) := by decide +kernel
theorem dX11_countPairs_19 : decode cX11_countPairs 19 = .ok (.getfield 38, 3) := by decide +kernel
theorem dX11_countPairs_22 : decode cX11_countPairs 22 = .ok (.iload 6, 2) := by decide +kernel
theorem dX11_countPairs_24 : decode cX11_countPairs 24 = .ok (.iaload, 1) := by decide +kernel
theorem dX11_countPairs_25 : decode cX11_countPairs 25 = .ok (.iload_n 3, 1) := by decide +kernel
theorem dX11_countPairs_26 : decode cX11_countPairs 26 = .ok (.if_icmp .ne 21, 3) := by decide +kernel
theorem dX11_countPairs_29 : decode cX11_countPairs 29 = .ok (.aload_n 0, 1) := by decide +kernel
theorem dX11_countPairs_30 : decode cX11_countPairs 30 = .ok (.getfield 38, 3) := by decide +kernel
theorem dX11_countPairs_33 : decode cX11_countPairs 33 = .ok (.iload 6, 2) := by decide +kernel
theorem dX11_countPairs_35 : decode cX11_countPairs 35 = .ok (.iconst 1, 1) := by decide +kernel
theorem dX11_countPairs_36 : decode cX11_countPairs 36 = .ok (.iadd, 1) := by decide +kernel
theorem dX11_countPairs_37 : decode cX11_countPairs 37 = .ok (.iaload, 1) := by decide +kernel
theorem dX11_countPairs_38 : decode cX11_countPairs 38 = .ok (.iload 4, 2) := by decide +kernel
theorem dX11_countPairs_40 : decode cX11_countPairs 40 = .ok (.if_icmp .ne 7, 3) := by decide +kernel
theorem dX11_countPairs_43 : decode cX11_countPairs 43 = .ok (.iconst 1, 1) := by decide +kernel
theorem dX11_countPairs_44 : decode cX11_countPairs 44 = .ok (.goto 4, 3) := by decide +kernel
theorem dX11_countPairs_47 : decode cX11_countPairs 47 = .ok (.iconst 0, 1) := by decide +kernel
theorem dX11_countPairs_48 : decode cX11_countPairs 48 = .ok (.iadd, 1) := by decide +kernel
theorem dX11_countPairs_49 : decode cX11_countPairs 49 = .ok (.istore 5, 2) := by decide +kernel
theorem dX11_countPairs_51 : decode cX11_countPairs 51 = .ok (.iinc 6 1, 3) := by decide +kernel
theorem dX11_countPairs_54 : decode cX11_countPairs 54 = .ok (.goto (-48), 3) := by decide +kernel
theorem dX11_countPairs_57 : decode cX11_countPairs 57 = .ok (.iload 5, 2) := by decide +kernel
theorem dX11_countPairs_59 : decode cX11_countPairs 59 = .ok (.ireturn, 1) := by decide +kernel
theorem dX11_sum_0 : decode cX11_sum 0 = .ok (.iconst 0, 1) := by decide +kernel
theorem dX11_sum_1 : decode cX11_sum 1 = .ok (.istore_n 3, 1) := by decide +kernel
theorem dX11_sum_2 : decode cX11_sum 2 = .ok (.iload_n 1, 1) := by decide +kernel
theorem dX11_sum_3 : decode cX11_sum 3 = .ok (.istore 4, 2) := by decide +kernel
theorem dX11_sum_5 : decode cX11_sum 5 = .ok (.iload 4, 2) := by decide +kernel
theorem dX11_sum_7 : decode cX11_sum 7 = .ok (.iload_n 1, 1) := by decide +kernel
theorem dX11_sum_8 : decode cX11_sum 8 = .ok (.iload_n 2, 1) := by decide +kernel
theorem dX11_sum_9 : decode cX11_sum 9 = .ok (.iadd, 1) := by decide +kernel
theorem dX11_sum_10 : decode cX11_sum 10 = .ok (.if_icmp .ge 24, 3) := by decide +kernel
theorem dX11_sum_13 : decode cX11_sum 13 = .ok (.iload_n 3, 1) := by decide +kernel
theorem dX11_sum_14 : decode cX11_sum 14 = .ok (.aload_n 0, 1) := by decide +kernel
theorem dX11_sum_15 : decode cX11_sum 15 = .ok (.getfield 19, 3) := by decide +kernel
theorem dX11_sum_18 : decode cX11_sum 18 = .ok (.aload_n 0, 1) := by decide +kernel
theorem dX11_sum_19 : decode cX11_sum 19 = .ok (.getfield 38, 3) := by decide +kernel
theorem dX11_sum_22 : decode cX11_sum 22 = .ok (.iload 4, 2) := by decide +kernel
theorem dX11_sum_24 : decode cX11_sum 24 = .ok (.iaload, 1) := by decide +kernel
theorem dX11_sum_25 : decode cX11_sum 25 = .ok (.iaload, 1) := by decide +kernel
theorem dX11_sum_26 : decode cX11_sum 26 = .ok (.iadd, 1) := by decide +kernel
theorem dX11_sum_27 : decode cX11_sum 27 = .ok (.istore_n 3, 1) := by decide +kernel
theorem dX11_sum_28 : decode cX11_sum 28 = .ok (.iinc 4 1, 3) := by decide +kernel
theorem dX11_sum_31 : decode cX11_sum 31 = .ok (.goto (-26), 3) := by decide +kernel
theorem dX11_sum_34 : decode cX11_sum 34 = .ok (.iload_n 3, 1) := by decide +kernel
theorem dX11_sum_35 : decode cX11_sum 35 = .ok (.ireturn, 1) := by decide +kernel
theorem dX11_areEqual_0 : decode cX11_areEqual 0 = .ok (.iconst 0, 1) := by decide +kernel
theorem dX11_areEqual_1 : decode cX11_areEqual 1 = .ok (.istore 4, 2) := by decide +kernel
theorem dX11_areEqual_3 : decode cX11_areEqual 3 = .ok (.iload 4, 2) := by decide +kernel
theorem dX11_areEqual_5 : decode cX11_areEqual 5 = .ok (.iload_n 3, 1) := by decide +kernel
theorem dX11_areEqual_6 : decode cX11_areEqual 6 = .ok (.if_icmp .ge 32, 3) := by decide +kernel
theorem dX11_areEqual_9 : decode cX11_areEqual 9 = .ok (.aload_n 0, 1) := by decide +kernel
theorem dX11_areEqual_10 : decode cX11_areEqual 10 = .ok (.getfield 38, 3) := by decide +kernel
theorem dX11_areEqual_13 : decode cX11_areEqual 13 = .ok (.iload_n 1, 1) := by decide +kernel
theorem dX11_areEqual_14 : decode cX11_areEqual 14 = .ok (.iload 4, 2) := by decide +kernel
theorem dX11_areEqual_16 : decode cX11_areEqual 16 = .ok (.iadd, 1) := by decide +kernel
theorem dX11_areEqual_17 : decode cX11_areEqual 17 = .ok (.iaload, 1) := by decide +kernel
theorem dX11_areEqual_18 : decode cX11_areEqual 18 = .ok (.aload_n 0, 1) := by decide +kernel
theorem dX11_areEqual_19 : decode cX11_areEqual 19 = .ok (.getfield 38, 3) := by decide +kernel
theorem dX11_areEqual_22 : decode cX11_areEqual 22 = .ok (.iload_n 2, 1) := by decide +kernel
theorem dX11_areEqual_23 : decode cX11_areEqual 23 = .ok (.iload 4, 2) := by decide +kernel
theorem dX11_areEqual_25 : decode cX11_areEqual 25 = .ok (.iadd, 1) := by decide +kernel
theorem dX11_areEqual_26 : decode cX11_areEqual 26 = .ok (.iaload, 1) := by decide +kernel
theorem dX11_areEqual_27 : decode cX11_areEqual 27 = .ok (.if_icmp .eq 5, 3) := by decide +kernel
theorem dX11_areEqual_30 : decode cX11_areEqual 30 = .ok (.iconst 0, 1) := by decide +kernel
theorem dX11_areEqual_31 : decode cX11_areEqual 31 = .ok (.ireturn, 1) := by decide +kernel
theorem dX11_areEqual_32 : decode cX11_areEqual 32 = .ok (.iinc 4 1, 3) := by decide +kernel
theorem dX11_areEqual_35 : decode cX11_areEqual 35 = .ok (.goto (-32), 3) := by decide +kernel
theorem dX11_areEqual_38 : decode cX11_areEqual 38 = .ok (.iconst 1, 1) := by decide +kernel
theorem dX11_areEqual_39 : decode cX11_areEqual 39 = .ok (.ireturn, 1) := by decide +kernel
set_option maxRecDepth 20000 in
theorem ggX11_areAbelian_X11_count : GoodIn wsX11_areAbelian wsX11_count := goodIn_r _ [6, 7, 8, 9, 10, 11, 12, 13, 14, 15, 16, 17, 18, 19, 20, 21, 22, 23, 24, 25, 26, 27, 28, 29, 30, 31, 32, 33, 34, 35, 36, 37, 38, 39, 40, 41, 42, 43] rfl (by decide +kernel)
set_option maxRecDepth 20000 in
theorem gX11_areAbelian_X11_count : GoodIn wsX11_areAbelian (wsV RX11 121 RX11 yX11_count wsX11_count) := goodIn_app (goodIn_r _ [2, 3, 4, 5] rfl (by decide +kernel)) ggX11_areAbelian_X11_count
theorem dX11_areAbelian_0 : decode cX11_areAbelian 0 = .ok (.iconst 0, 1) := by decide +kernel
theorem dX11_areAbelian_1 : decode cX11_areAbelian 1 = .ok (.istore 4, 2) := by decide +kernel
theorem dX11_areAbelian_3 : decode cX11_areAbelian 3 = .ok (.iload 4, 2) := by decide +kernel
theorem dX11_areAbelian_5 : decode cX11_areAbelian 5 = .ok (.aload_n 0, 1) := by decide +kernel
theorem dX11_areAbelian_6 : decode cX11_areAbelian 6 = .ok (.getfield 16, 3) := by decide +kernel
theorem dX11_areAbelian_9 : decode cX11_areAbelian 9 = .ok (.if_icmp .ge 30, 3) := by decide +kernel
theorem dX11_areAbelian_12 : decode cX11_areAbelian 12 = .ok (.aload_n 0, 1) := by decide +kernel
theorem dX11_areAbelian_13 : decode cX11_areAbelian 13 = .ok (.iload_n 1, 1) := by decide +kernel
theorem dX11_areAbelian_14 : decode cX11_areAbelian 14 = .ok (.iload_n 3, 1) := by decide +kernel
theorem dX11_areAbelian_15 : decode cX11_areAbelian 15 = .ok (.iload 4, 2) := by decide +kernel
theorem dX11_areAbelian_17 : decode cX11_areAbelian 17 = .ok (.invokevirtual 121, 3) := by decide +kernel
theorem dX11_areAbelian_20 : decode cX11_areAbelian 20 = .ok (.aload_n 0, 1) := by decide +kernel
theorem dX11_areAbelian_21 : decode cX11_areAbelian 21 = .ok (.iload_n 2, 1) := by decide +kernel
theorem dX11_areAbelian_22 : decode cX11_areAbelian 22 = .ok (.iload_n 3, 1) := by decide +kernel
theorem dX11_areAbelian_23 : decode cX11_areAbelian 23 = .ok (.iload 4, 2) := by decide +kernel
theorem dX11_areAbelian_25 : decode cX11_areAbelian 25 = .ok (.invokevirtual 121, 3) := by decide +kernel
theorem dX11_areAbelian_28 : decode cX11_areAbelian 28 = .ok (.if_icmp .eq 5, 3) := by decide +kernel
theorem dX11_areAbelian_31 : decode cX11_areAbelian 31 = .ok (.iconst 0, 1) := by decide +kernel
theorem dX11_areAbelian_32 : decode cX11_areAbelian 32 = .ok (.ireturn, 1) := by decide +kernel
theorem dX11_areAbelian_33 : decode cX11_areAbelian 33 = .ok (.iinc 4 1, 3) := by decide +kernel
theorem dX11_areAbelian_36 : decode cX11_areAbelian 36 = .ok (.goto (-33), 3) := by decide +kernel
theorem dX11_areAbelian_39 : decode cX11_areAbelian 39 = .ok (.iconst 1, 1) := by decide +kernel
theorem dX11_areAbelian_40 : decode cX11_areAbelian 40 = .ok (.ireturn, 1) := by decide +kernel
set_option maxRecDepth 20000 in
theorem ggX11_areMixed_X11_areAbelian : GoodIn wsX11_areMixed wsX11_areAbelian := goodIn_r _ [7, 2, 8, 9, 10, 6, 11, 1, 16, 17, 18, 19, 20, 21, 22, 23, 24, 25, 26, 27, 28, 29, 30, 31, 32, 33, 34, 35, 36, 37, 38, 39, 40, 41, 42, 43, 44, 45, 46, 47, 48, 49, 50, 51] rfl (by decide +kernel)
set_option maxRecDepth 20000 in
theorem gX11_areMixed_X11_areAbelian : GoodIn wsX11_areMixed (wsV RX11 125 RX11 yX11_areAbelian wsX11_areAbelian) := goodIn_app (goodIn_r _ [3, 4, 5, 6] rfl (by decide +kernel)) ggX11_areMixed_X11_areAbelian
set_option maxRecDepth 20000 in
theorem ggX11_areMixed_X11_countPairs : GoodIn wsX11_areMixed wsX11_countPairs := goodIn_r _ [15, 1, 16, 17, 18, 19, 20, 21, 22, 23, 24, 25, 26, 27, 28, 29, 30, 31, 32, 33, 34, 35, 36, 37, 38, 39, 40, 41, 42, 43, 44, 45, 46, 47, 48, 49, 50, 51] rfl (by decide +kernel)
set_option maxRecDepth 20000 in
theorem gX11_areMixed_X11_countPairs : GoodIn wsX11_areMixed (wsV RX11 128 RX11 yX11_countPairs wsX11_countPairs) := goodIn_app (goodIn_r _ [12, 13, 14, 6] rfl (by decide +kernel)) ggX11_areMixed_X11_countPairs
theorem dX11_areMixed_0 : decode cX11_areMixed 0 = .ok (.iload_n 3, 1) := by decide +kernel
theorem dX11_areMixed_1 : decode cX11_areMixed 1 = .ok (.ifCond .le 18, 3) := by decide +kernel
theorem dX11_areMixed_4 : decode cX11_areMixed 4 = .ok (.aload_n 0, 1) := by decide +kernel
theorem dX11_areMixed_5 : decode cX11_areMixed 5 = .ok (.getfield 38, 3) := by decide +kernel
theorem dX11_areMixed_8 : decode cX11_areMixed 8 = .ok (.iload_n 1, 1) := by decide +kernel
theorem dX11_areMixed_9 : decode cX11_areMixed 9 = .ok (.iaload, 1) := by decide +kernel
theorem dX11_areMixed_10 : decode cX11_areMixed 10 = .ok (.aload_n 0, 1) := by decide +kernel
theorem dX11_areMixed_11 : decode cX11_areMixed 11 = .ok (.getfield 38, 3) := by decide +kernel
theorem dX11_areMixed_14 : decode cX11_areMixed 14 = .ok (.iload_n 2, 1) := by decide +kernel
theorem dX11_areMixed_15 : decode cX11_areMixed 15 = .ok (.iaload, 1) := by decide +kernel
theorem dX11_areMixed_16 : decode cX11_areMixed 16 = .ok (.if_icmp .ne 13, 3) := by decide +kernel
theorem dX11_areMixed_19 : decode cX11_areMixed 19 = .ok (.aload_n 0, 1) := by decide +kernel
theorem dX11_areMixed_20 : decode cX11_areMixed 20 = .ok (.iload_n 1, 1) := by decide +kernel
theorem dX11_areMixed_21 : decode cX11_areMixed 21 = .ok (.iload_n 2, 1) := by decide +kernel
theorem dX11_areMixed_22 : decode cX11_areMixed 22 = .ok (.iload_n 3, 1) := by decide +kernel
theorem dX11_areMixed_23 : decode cX11_areMixed 23 = .ok (.invokevirtual 125, 3) := by decide +kernel
theorem dX11_areMixed_26 : decode cX11_areMixed 26 = .ok (.ifCond .ne 5, 3) := by decide +kernel
theorem dX11_areMixed_29 : decode cX11_areMixed 29 = .ok (.iconst 0, 1) := by decide +kernel
theorem dX11_areMixed_30 : decode cX11_areMixed 30 = .ok (.ireturn, 1) := by decide +kernel
theorem dX11_areMixed_31 : decode cX11_areMixed 31 = .ok (.iconst 0, 1) := by decide +kernel
theorem dX11_areMixed_32 : decode cX11_areMixed 32 = .ok (.istore 4, 2) := by decide +kernel
theorem dX11_areMixed_34 : decode cX11_areMixed 34 = .ok (.iload 4, 2) := by decide +kernel
theorem dX11_areMixed_36 : decode cX11_areMixed 36 = .ok (.aload_n 0, 1) := by decide +kernel
theorem dX11_areMixed_37 : decode cX11_areMixed 37 = .ok (.getfield 16, 3) := by decide +kernel
theorem dX11_areMixed_40 : decode cX11_areMixed 40 = .ok (.aload_n 0, 1) := by decide +kernel
theorem dX11_areMixed_41 : decode cX11_areMixed 41 = .ok (.getfield 16, 3) := by decide +kernel
theorem dX11_areMixed_44 : decode cX11_areMixed 44 = .ok (.imul, 1) := by decide +kernel
theorem dX11_areMixed_45 : decode cX11_areMixed 45 = .ok (.if_icmp .ge 54, 3) := by decide +kernel
theorem dX11_areMixed_48 : decode cX11_areMixed 48 = .ok (.aload_n 0, 1) := by decide +kernel
theorem dX11_areMixed_49 : decode cX11_areMixed 49 = .ok (.iload_n 1, 1) := by decide +kernel
theorem dX11_areMixed_50 : decode cX11_areMixed 50 = .ok (.iload_n 3, 1) := by decide +kernel
theorem dX11_areMixed_51 : decode cX11_areMixed 51 = .ok (.iload 4, 2) := by decide +kernel
theorem dX11_areMixed_53 : decode cX11_areMixed 53 = .ok (.aload_n 0, 1) := by decide +kernel
theorem dX11_areMixed_54 : decode cX11_areMixed 54 = .ok (.getfield 16, 3) := by decide +kernel
theorem dX11_areMixed_57 : decode cX11_areMixed 57 = .ok (.idiv, 1) := by decide +kernel
theorem dX11_areMixed_58 : decode cX11_areMixed 58 = .ok (.iload 4, 2) := by decide +kernel
theorem dX11_areMixed_60 : decode cX11_areMixed 60 = .ok (.aload_n 0, 1) := by decide +kernel
theorem dX11_areMixed_61 : decode cX11_areMixed 61 = .ok (.getfield 16, 3) := by decide +kernel
theorem dX11_areMixed_64 : decode cX11_areMixed 64 = .ok (.irem, 1) := by decide +kernel
theorem dX11_areMixed_65 : decode cX11_areMixed 65 = .ok (.invokevirtual 128, 3) := by decide +kernel
theorem dX11_areMixed_68 : decode cX11_areMixed 68 = .ok (.aload_n 0, 1) := by decide +kernel
theorem dX11_areMixed_69 : decode cX11_areMixed 69 = .ok (.iload_n 2, 1) := by decide +kernel
theorem dX11_areMixed_70 : decode cX11_areMixed 70 = .ok (.iload_n 3, 1) := by decide +kernel
theorem dX11_areMixed_71 : decode cX11_areMixed 71 = .ok (.iload 4, 2) := by decide +kernel
theorem dX11_areMixed_73 : decode cX11_areMixed 73 = .ok (.aload_n 0, 1) := by decide +kernel
theorem dX11_areMixed_74 : decode cX11_areMixed 74 = .ok (.getfield 16, 3) := by decide +kernel
theorem dX11_areMixed_77 : decode cX11_areMixed 77 = .ok (.idiv, 1) := by decide +kernel
theorem dX11_areMixed_78 : decode cX11_areMixed 78 = .ok (.iload 4, 2) := by decide +kernel
theorem dX11_areMixed_80 : decode cX11_areMixed 80 = .ok (.aload_n 0, 1) := by decide +kernel
theorem dX11_areMixed_81 : decode cX11_areMixed 81 = .ok (.getfield 16, 3) := by decide +kernel
theorem dX11_areMixed_84 : decode cX11_areMixed 84 = .ok (.irem, 1) := by decide +kernel
theorem dX11_areMixed_85 : decode cX11_areMixed 85 = .ok (.invokevirtual 128, 3) := by decide +kernel
theorem dX11_areMixed_88 : decode cX11_areMixed 88 = .ok (.if_icmp .eq 5, 3) := by decide +kernel
theorem dX11_areMixed_91 : decode cX11_areMixed 91 = .ok (.iconst 0, 1) := by decide +kernel
theorem dX11_areMixed_92 : decode cX11_areMixed 92 = .ok (.ireturn, 1) := by decide +kernel
theorem dX11_areMixed_93 : decode cX11_areMixed 93 = .ok (.iinc 4 1, 3) := by decide +kernel
theorem dX11_areMixed_96 : decode cX11_areMixed 96 = .ok (.goto (-62), 3) := by decide +kernel
theorem dX11_areMixed_99 : decode cX11_areMixed 99 = .ok (.iconst 1, 1) := by decide +kernel
theorem dX11_areMixed_100 : decode cX11_areMixed 100 = .ok (.ireturn, 1) := by decide +kernel
set_option maxRecDepth 20000 in
theorem ggX11_areAlike_X11_areEqual : GoodIn wsX11_areAlike wsX11_areEqual := goodIn_r _ [6, 7, 30, 31, 32, 33, 34, 35, 36, 37, 38, 39, 40, 41, 42, 43, 44, 45, 46, 47, 48, 49, 50, 51, 52, 53, 54, 55, 56, 57, 58, 59, 60, 61, 62, 63, 64, 65] rfl (by decide +kernel)
set_option maxRecDepth 20000 in
theorem gX11_areAlike_X11_areEqual : GoodIn wsX11_areAlike (wsV RX11 132 RX11 yX11_areEqual wsX11_areEqual) := goodIn_app (goodIn_r _ [2, 3, 4, 5] rfl (by decide +kernel)) ggX11_areAlike_X11_areEqual
set_option maxRecDepth 20000 in
theorem ggX11_areAlike_X11_sum : GoodIn wsX11_areAlike wsX11_sum := goodIn_r _ [11, 12, 7, 30, 31, 32, 33, 34, 35, 36, 37, 38, 39, 40, 41, 42, 43, 44, 45, 46, 47, 48, 49, 50, 51, 52, 53, 54, 55, 56, 57, 58, 59, 60, 61, 62, 63, 64, 65] rfl (by decide +kernel)
set_option maxRecDepth 20000 in
theorem gX11_areAlike_X11_sum : GoodIn wsX11_areAlike (wsV RX11 135 RX11 yX11_sum wsX11_sum) := goodIn_app (goodIn_r _ [8, 9, 10, 5] rfl (by decide +kernel)) ggX11_areAlike_X11_sum
set_option maxRecDepth 20000 in
theorem ggX11_areAlike_X11_areMixed : GoodIn wsX11_areAlike wsX11_areMixed := goodIn_r _ [16, 7, 17, 18, 19, 20, 5, 21, 22, 23, 24, 25, 26, 27, 28, 29, 30, 31, 32, 33, 34, 35, 36, 37, 38, 39, 40, 41, 42, 43, 44, 45, 46, 47, 48, 49, 50, 51, 52, 53, 54, 55, 56, 57, 58, 59, 60, 61, 62, 63, 64, 65] rfl (by decide +kernel)
set_option maxRecDepth 20000 in
theorem gX11_areAlike_X11_areMixed : GoodIn wsX11_areAlike (wsV RX11 138 RX11 yX11_areMixed wsX11_areMixed) := goodIn_app (goodIn_r _ [13, 14, 15, 5] rfl (by decide +kernel)) ggX11_areAlike_X11_areMixed
set_option maxRecDepth 20000 in
theorem ggX11_areAlike_X11_areAbelian : GoodIn wsX11_areAlike wsX11_areAbelian := goodIn_r _ [21, 17, 22, 23, 24, 5, 25, 7, 30, 31, 32, 33, 34, 35, 36, 37, 38, 39, 40, 41, 42, 43, 44, 45, 46, 47, 48, 49, 50, 51, 52, 53, 54, 55, 56, 57, 58, 59, 60, 61, 62, 63, 64, 65] rfl (by decide +kernel)
set_option maxRecDepth 20000 in
theorem gX11_areAlike_X11_areAbelian : GoodIn wsX11_areAlike (wsV RX11 125 RX11 yX11_areAbelian wsX11_areAbelian) := goodIn_app (goodIn_r _ [18, 19, 20, 5] rfl (by decide +kernel)) ggX11_areAlike_X11_areAbelian
theorem dX11_areAlike_0 : decode cX11_areAlike 0 = .ok (.aload_n 0, 1) := by decide +kernel
theorem dX11_areAlike_1 : decode cX11_areAlike 1 = .ok (.getfield 7, 3) := by decide +kernel
theorem dX11_areAlike_4 : decode cX11_areAlike 4 = .ok (.tableswitch 69 0 3 #[32, 69, 40, 61], 32) := by decide +kernel
theorem dX11_areAlike_36 : decode cX11_areAlike 36 = .ok (.aload_n 0, 1) := by decide +kernel
theorem dX11_areAlike_37 : decode cX11_areAlike 37 = .ok (.iload_n 1, 1) := by decide +kernel
theorem dX11_areAlike_38 : decode cX11_areAlike 38 = .ok (.iload_n 2, 1) := by decide +kernel
theorem dX11_areAlike_39 : decode cX11_areAlike 39 = .ok (.iload_n 3, 1) := by decide +kernel
theorem dX11_areAlike_40 : decode cX11_areAlike 40 = .ok (.invokevirtual 132, 3) := by decide +kernel
theorem dX11_areAlike_43 : decode cX11_areAlike 43 = .ok (.ireturn, 1) := by decide +kernel
theorem dX11_areAlike_44 : decode cX11_areAlike 44 = .ok (.aload_n 0, 1) := by decide +kernel
theorem dX11_areAlike_45 : decode cX11_areAlike 45 = .ok (.iload_n 1, 1) := by decide +kernel
theorem dX11_areAlike_46 : decode cX11_areAlike 46 = .ok (.iload_n 3, 1) := by decide +kernel
theorem dX11_areAlike_47 : decode cX11_areAlike 47 = .ok (.invokevirtual 135, 3) := by decide +kernel
theorem dX11_areAlike_50 : decode cX11_areAlike 50 = .ok (.aload_n 0, 1) := by decide +kernel
theorem dX11_areAlike_51 : decode cX11_areAlike 51 = .ok (.iload_n 2, 1) := by decide +kernel
theorem dX11_areAlike_52 : decode cX11_areAlike 52 = .ok (.iload_n 3, 1) := by decide +kernel
theorem dX11_areAlike_53 : decode cX11_areAlike 53 = .ok (.invokevirtual 135, 3) := by decide +kernel
theorem dX11_areAlike_56 : decode cX11_areAlike 56 = .ok (.if_icmp .ne 7, 3) := by decide +kernel
theorem dX11_areAlike_59 : decode cX11_areAlike 59 = .ok (.iconst 1, 1) := by decide +kernel
theorem dX11_areAlike_60 : decode cX11_areAlike 60 = .ok (.goto 4, 3) := by decide +kernel
theorem dX11_areAlike_63 : decode cX11_areAlike 63 = .ok (.iconst 0, 1) := by decide +kernel
theorem dX11_areAlike_64 : decode cX11_areAlike 64 = .ok (.ireturn, 1) := by decide +kernel
theorem dX11_areAlike_65 : decode cX11_areAlike 65 = .ok (.aload_n 0, 1) := by decide +kernel
theorem dX11_areAlike_66 : decode cX11_areAlike 66 = .ok (.iload_n 1, 1) := by decide +kernel
theorem dX11_areAlike_67 : decode cX11_areAlike 67 = .ok (.iload_n 2, 1) := by decide +kernel
theorem dX11_areAlike_68 : decode cX11_areAlike 68 = .ok (.iload_n 3, 1) := by decide +kernel
theorem dX11_areAlike_69 : decode cX11_areAlike 69 = .ok (.invokevirtual 138, 3) := by decide +kernel
theorem dX11_areAlike_72 : decode cX11_areAlike 72 = .ok (.ireturn, 1) := by decide +kernel
theorem dX11_areAlike_73 : decode cX11_areAlike 73 = .ok (.aload_n 0, 1) := by decide +kernel
theorem dX11_areAlike_74 : decode cX11_areAlike 74 = .ok (.iload_n 1, 1) := by decide +kernel
theorem dX11_areAlike_75 : decode cX11_areAlike 75 = .ok (.iload_n 2, 1) := by decide +kernel
theorem dX11_areAlike_76 : decode cX11_areAlike 76 = .ok (.iload_n 3, 1) := by decide +kernel
theorem dX11_areAlike_77 : decode cX11_areAlike 77 = .ok (.invokevirtual 125, 3) := by decide +kernel
theorem dX11_areAlike_80 : decode cX11_areAlike 80 = .ok (.ireturn, 1) := by decide +kernel
set_option maxRecDepth 20000 in
theorem ggX11_isPower_X11_areAlike : GoodIn wsX11_isPower wsX11_areAlike := goodIn_r _ [6, 7, 8, 9, 10, 5, 11, 12, 13, 14, 15, 16, 17, 18, 19, 20, 21, 22, 23, 24, 25, 26, 27, 28, 29, 30, 31, 32, 33, 34, 35, 36, 37, 38, 39, 40, 41, 42, 43, 44, 45, 46, 47, 48, 49, 50, 51, 52, 53, 54, 55, 56, 57, 58, 59, 60, 61, 62, 63, 64, 65, 66, 67, 68, 69, 70] rfl (by decide +kernel)
set_option maxRecDepth 20000 in
theorem gX11_isPower_X11_areAlike : GoodIn wsX11_isPower (wsV RX11 141 RX11 yX11_areAlike wsX11_areAlike) := goodIn_app (goodIn_r _ [2, 3, 4, 5] rfl (by decide +kernel)) ggX11_isPower_X11_areAlike
theorem dX11_isPower_0 : decode cX11_isPower 0 = .ok (.iload_n 1, 1) := by decide +kernel
theorem dX11_isPower_1 : decode cX11_isPower 1 = .ok (.aload_n 0, 1) := by decide +kernel
theorem dX11_isPower_2 : decode cX11_isPower 2 = .ok (.getfield 13, 3) := by decide +kernel
theorem dX11_isPower_5 : decode cX11_isPower 5 = .ok (.iload_n 2, 1) := by decide +kernel
theorem dX11_isPower_6 : decode cX11_isPower 6 = .ok (.imul, 1) := by decide +kernel
theorem dX11_isPower_7 : decode cX11_isPower 7 = .ok (.isub, 1) := by decide +kernel
theorem dX11_isPower_8 : decode cX11_isPower 8 = .ok (.istore_n 3, 1) := by decide +kernel
theorem dX11_isPower_9 : decode cX11_isPower 9 = .ok (.iload_n 3, 1) := by decide +kernel
theorem dX11_isPower_10 : decode cX11_isPower 10 = .ok (.ifCond .ge 5, 3) := by decide +kernel
theorem dX11_isPower_13 : decode cX11_isPower 13 = .ok (.iconst 0, 1) := by decide +kernel
theorem dX11_isPower_14 : decode cX11_isPower 14 = .ok (.ireturn, 1) := by decide +kernel
theorem dX11_isPower_15 : decode cX11_isPower 15 = .ok (.iconst 1, 1) := by decide +kernel
theorem dX11_isPower_16 : decode cX11_isPower 16 = .ok (.istore 4, 2) := by decide +kernel
theorem dX11_isPower_18 : decode cX11_isPower 18 = .ok (.iload 4, 2) := by decide +kernel
theorem dX11_isPower_20 : decode cX11_isPower 20 = .ok (.aload_n 0, 1) := by decide +kernel
theorem dX11_isPower_21 : decode cX11_isPower 21 = .ok (.getfield 13, 3) := by decide +kernel
theorem dX11_isPower_24 : decode cX11_isPower 24 = .ok (.if_icmp .ge 26, 3) := by decide +kernel
theorem dX11_isPower_27 : decode cX11_isPower 27 = .ok (.aload_n 0, 1) := by decide +kernel
theorem dX11_isPower_28 : decode cX11_isPower 28 = .ok (.iload_n 3, 1) := by decide +kernel
theorem dX11_isPower_29 : decode cX11_isPower 29 = .ok (.iload_n 3, 1) := by decide +kernel
theorem dX11_isPower_30 : decode cX11_isPower 30 = .ok (.iload 4, 2) := by decide +kernel
theorem dX11_isPower_32 : decode cX11_isPower 32 = .ok (.iload_n 2, 1) := by decide +kernel
theorem dX11_isPower_33 : decode cX11_isPower 33 = .ok (.imul, 1) := by decide +kernel
theorem dX11_isPower_34 : decode cX11_isPower 34 = .ok (.iadd, 1) := by decide +kernel
theorem dX11_isPower_35 : decode cX11_isPower 35 = .ok (.iload_n 2, 1) := by decide +kernel
theorem dX11_isPower_36 : decode cX11_isPower 36 = .ok (.invokevirtual 141, 3) := by decide +kernel
theorem dX11_isPower_39 : decode cX11_isPower 39 = .ok (.ifCond .ne 5, 3) := by decide +kernel
theorem dX11_isPower_42 : decode cX11_isPower 42 = .ok (.iconst 0, 1) := by decide +kernel
theorem dX11_isPower_43 : decode cX11_isPower 43 = .ok (.ireturn, 1) := by decide +kernel
theorem dX11_isPower_44 : decode cX11_isPower 44 = .ok (.iinc 4 1, 3) := by decide +kernel
theorem dX11_isPower_47 : decode cX11_isPower 47 = .ok (.goto (-29), 3) := by decide +kernel
theorem dX11_isPower_50 : decode cX11_isPower 50 = .ok (.iconst 1, 1) := by decide +kernel
theorem dX11_isPower_51 : decode cX11_isPower 51 = .ok (.ireturn, 1) := by decide +kernel
set_option maxRecDepth 20000 in
theorem ggX11_endsAt_X11_isPower : GoodIn wsX11_endsAt wsX11_isPower := goodIn_r _ [6, 1, 7, 8, 9, 5, 10, 11, 12, 13, 14, 15, 16, 17, 18, 19, 20, 21, 22, 23, 24, 25, 26, 27, 28, 29, 30, 31, 32, 33, 34, 35, 36, 37, 38, 39, 40, 41, 42, 43, 44, 45, 46, 47, 48, 49, 50, 51, 52, 53, 54, 55, 56, 57, 58, 59, 60, 61, 62, 63, 64, 65, 66, 67, 68, 69, 70, 71, 72, 73, 74] rfl (by decide +kernel)
set_option maxRecDepth 20000 in
theorem gX11_endsAt_X11_isPower : GoodIn wsX11_endsAt (wsV RX11 144 RX11 yX11_isPower wsX11_isPower) := goodIn_app (goodIn_r _ [2, 3, 4, 5] rfl (by decide +kernel)) ggX11_endsAt_X11_isPower
theorem dX11_endsAt_0 : decode cX11_endsAt 0 = .ok (.iconst 1, 1) := by decide +kernel
theorem dX11_endsAt_1 : decode cX11_endsAt 1 = .ok (.istore_n 2, 1) := by decide +kernel
theorem dX11_endsAt_2 : decode cX11_endsAt 2 = .ok (.aload_n 0, 1) := by decide +kernel
theorem dX11_endsAt_3 : decode cX11_endsAt 3 = .ok (.getfield 13, 3) := by decide +kernel
theorem dX11_endsAt_6 : decode cX11_endsAt 6 = .ok (.iload_n 2, 1) := by decide +kernel
theorem dX11_endsAt_7 : decode cX11_endsAt 7 = .ok (.imul, 1) := by decide +kernel
theorem dX11_endsAt_8 : decode cX11_endsAt 8 = .ok (.iload_n 1, 1) := by decide +kernel
theorem dX11_endsAt_9 : decode cX11_endsAt 9 = .ok (.if_icmp .gt 20, 3) := by decide +kernel
theorem dX11_endsAt_12 : decode cX11_endsAt 12 = .ok (.aload_n 0, 1) := by decide +kernel
theorem dX11_endsAt_13 : decode cX11_endsAt 13 = .ok (.iload_n 1, 1) := by decide +kernel
theorem dX11_endsAt_14 : decode cX11_endsAt 14 = .ok (.iload_n 2, 1) := by decide +kernel
theorem dX11_endsAt_15 : decode cX11_endsAt 15 = .ok (.invokevirtual 144, 3) := by decide +kernel
theorem dX11_endsAt_18 : decode cX11_endsAt 18 = .ok (.ifCond .eq 5, 3) := by decide +kernel
theorem dX11_endsAt_21 : decode cX11_endsAt 21 = .ok (.iload_n 2, 1) := by decide +kernel
theorem dX11_endsAt_22 : decode cX11_endsAt 22 = .ok (.ireturn, 1) := by decide +kernel
theorem dX11_endsAt_23 : decode cX11_endsAt 23 = .ok (.iinc 2 1, 3) := by decide +kernel
theorem dX11_endsAt_26 : decode cX11_endsAt 26 = .ok (.goto (-24), 3) := by decide +kernel
theorem dX11_endsAt_29 : decode cX11_endsAt 29 = .ok (.iconst 0, 1) := by decide +kernel
theorem dX11_endsAt_30 : decode cX11_endsAt 30 = .ok (.ireturn, 1) := by decide +kernel
set_option maxRecDepth 20000 in
theorem ggX11_occurrences_X11_isBlock : GoodIn wsX11_occurrences wsX11_isBlock := goodIn_r _ [5, 6, 7, 8, 4, 9, 10, 11, 12, 29, 30, 31, 32, 33, 34, 35, 36, 37, 38, 39, 40, 41, 42, 43, 44, 45, 46, 47, 48, 49, 50, 51, 52, 53, 54, 55, 56, 57, 58, 59, 60, 61, 62, 63, 64] rfl (by decide +kernel)
set_option maxRecDepth 20000 in
theorem gX11_occurrences_X11_isBlock : GoodIn wsX11_occurrences (wsV RX11 148 RX11 yX11_isBlock wsX11_isBlock) := goodIn_app (goodIn_r _ [1, 2, 3, 4] rfl (by decide +kernel)) ggX11_occurrences_X11_isBlock
set_option maxRecDepth 20000 in
theorem ggX11_occurrences_X11_isLetter : GoodIn wsX11_occurrences wsX11_isLetter := goodIn_r _ [16, 17, 10, 11, 4, 12, 29, 30, 31, 32, 33, 34, 35, 36, 37, 38, 39, 40, 41, 42, 43, 44, 45, 46, 47, 48, 49, 50, 51, 52, 53, 54, 55, 56, 57, 58, 59, 60, 61, 62, 63, 64] rfl (by decide +kernel)
set_option maxRecDepth 20000 in
theorem gX11_occurrences_X11_isLetter : GoodIn wsX11_occurrences (wsV RX11 111 RX11 yX11_isLetter wsX11_isLetter) := goodIn_app (goodIn_r _ [13, 14, 15, 4] rfl (by decide +kernel)) ggX11_occurrences_X11_isLetter
set_option maxRecDepth 20000 in
theorem ggX11_occurrences_X11_take : GoodIn wsX11_occurrences wsX11_take := goodIn_r _ [21, 6, 22, 23, 24, 29, 30, 31, 32, 33, 34, 35, 36, 37, 38, 39, 40, 41, 42, 43, 44, 45, 46, 47, 48, 49, 50, 51, 52, 53, 54, 55, 56, 57, 58, 59, 60, 61, 62, 63, 64] rfl (by decide +kernel)
set_option maxRecDepth 20000 in
theorem gX11_occurrences_X11_take : GoodIn wsX11_occurrences (wsV RX11 151 RX11 yX11_take wsX11_take) := goodIn_app (goodIn_r _ [18, 19, 20, 4] rfl (by decide +kernel)) ggX11_occurrences_X11_take
set_option maxRecDepth 20000 in
theorem ggX11_occurrences_X11_count : GoodIn wsX11_occurrences wsX11_count := goodIn_r _ [28, 23, 29, 30, 31, 32, 33, 34, 35, 36, 37, 38, 39, 40, 41, 42, 43, 44, 45, 46, 47, 48, 49, 50, 51, 52, 53, 54, 55, 56, 57, 58, 59, 60, 61, 62, 63, 64] rfl (by decide +kernel)
set_option maxRecDepth 20000 in
theorem gX11_occurrences_X11_count : GoodIn wsX11_occurrences (wsV RX11 121 RX11 yX11_count wsX11_count) := goodIn_app (goodIn_r _ [25, 26, 27, 4] rfl (by decide +kernel)) ggX11_occurrences_X11_count
theorem dX11_occurrences_0 : decode cX11_occurrences 0 = .ok (.aload_n 0, 1) := by decide +kernel
theorem dX11_occurrences_1 : decode cX11_occurrences 1 = .ok (.iload_n 1, 1) := by decide +kernel
theorem dX11_occurrences_2 : decode cX11_occurrences 2 = .ok (.iload_n 2, 1) := by decide +kernel
theorem dX11_occurrences_3 : decode cX11_occurrences 3 = .ok (.iload_n 3, 1) := by decide +kernel
theorem dX11_occurrences_4 : decode cX11_occurrences 4 = .ok (.invokevirtual 148, 3) := by decide +kernel
theorem dX11_occurrences_7 : decode cX11_occurrences 7 = .ok (.ifCond .eq 12, 3) := by decide +kernel
theorem dX11_occurrences_10 : decode cX11_occurrences 10 = .ok (.aload_n 0, 1) := by decide +kernel
theorem dX11_occurrences_11 : decode cX11_occurrences 11 = .ok (.iload 4, 2) := by decide +kernel
theorem dX11_occurrences_13 : decode cX11_occurrences 13 = .ok (.invokevirtual 111, 3) := by decide +kernel
theorem dX11_occurrences_16 : decode cX11_occurrences 16 = .ok (.ifCond .ne 5, 3) := by decide +kernel
theorem dX11_occurrences_19 : decode cX11_occurrences 19 = .ok (.iconst (-1), 1) := by decide +kernel
theorem dX11_occurrences_20 : decode cX11_occurrences 20 = .ok (.ireturn, 1) := by decide +kernel
theorem dX11_occurrences_21 : decode cX11_occurrences 21 = .ok (.aload_n 0, 1) := by decide +kernel
theorem dX11_occurrences_22 : decode cX11_occurrences 22 = .ok (.iload_n 1, 1) := by decide +kernel
theorem dX11_occurrences_23 : decode cX11_occurrences 23 = .ok (.invokevirtual 151, 3) := by decide +kernel
theorem dX11_occurrences_26 : decode cX11_occurrences 26 = .ok (.aload_n 0, 1) := by decide +kernel
theorem dX11_occurrences_27 : decode cX11_occurrences 27 = .ok (.iload_n 2, 1) := by decide +kernel
theorem dX11_occurrences_28 : decode cX11_occurrences 28 = .ok (.iload_n 3, 1) := by decide +kernel
theorem dX11_occurrences_29 : decode cX11_occurrences 29 = .ok (.iload 4, 2) := by decide +kernel
theorem dX11_occurrences_31 : decode cX11_occurrences 31 = .ok (.invokevirtual 121, 3) := by decide +kernel
theorem dX11_occurrences_34 : decode cX11_occurrences 34 = .ok (.ireturn, 1) := by decide +kernel
set_option maxRecDepth 20000 in
theorem ggX11_equivalent_X11_isBlock : GoodIn wsX11_equivalent wsX11_isBlock := goodIn_r _ [5, 6, 7, 8, 4, 9, 10, 11, 12, 51, 52, 53, 54, 55, 56, 57, 58, 59, 60, 61, 62, 63, 64, 65, 66, 67, 68, 69, 70, 71, 72, 73, 74, 75, 76, 77, 78, 79, 80, 81, 82, 83, 84, 85, 86] rfl (by decide +kernel)
set_option maxRecDepth 20000 in
theorem gX11_equivalent_X11_isBlock : GoodIn wsX11_equivalent (wsV RX11 148 RX11 yX11_isBlock wsX11_isBlock) := goodIn_app (goodIn_r _ [1, 2, 3, 4] rfl (by decide +kernel)) ggX11_equivalent_X11_isBlock
set_option maxRecDepth 20000 in
theorem ggX11_equivalent_X11_take : GoodIn wsX11_equivalent wsX11_take := goodIn_r _ [16, 6, 17, 18, 19, 51, 52, 53, 54, 55, 56, 57, 58, 59, 60, 61, 62, 63, 64, 65, 66, 67, 68, 69, 70, 71, 72, 73, 74, 75, 76, 77, 78, 79, 80, 81, 82, 83, 84, 85, 86] rfl (by decide +kernel)
set_option maxRecDepth 20000 in
theorem gX11_equivalent_X11_take : GoodIn wsX11_equivalent (wsV RX11 151 RX11 yX11_take wsX11_take) := goodIn_app (goodIn_r _ [13, 14, 15, 4] rfl (by decide +kernel)) ggX11_equivalent_X11_take
set_option maxRecDepth 20000 in
theorem ggX11_equivalent_X11_areAlike : GoodIn wsX11_equivalent wsX11_areAlike := goodIn_r _ [23, 24, 25, 26, 27, 4, 28, 18, 29, 30, 31, 32, 33, 34, 35, 36, 37, 38, 39, 40, 41, 42, 43, 44, 45, 46, 47, 48, 49, 50, 51, 52, 53, 54, 55, 56, 57, 58, 59, 60, 61, 62, 63, 64, 65, 66, 67, 68, 69, 70, 71, 72, 73, 74, 75, 76, 77, 78, 79, 80, 81, 82, 83, 84, 85, 86] rfl (by decide +kernel)
set_option maxRecDepth 20000 in
theorem gX11_equivalent_X11_areAlike : GoodIn wsX11_equivalent (wsV RX11 141 RX11 yX11_areAlike wsX11_areAlike) := goodIn_app (goodIn_r _ [20, 21, 22, 4] rfl (by decide +kernel)) ggX11_equivalent_X11_areAlike
theorem dX11_equivalent_0 : decode cX11_equivalent 0 = .ok (.aload_n 0, 1) := by decide +kernel
theorem dX11_equivalent_1 : decode cX11_equivalent 1 = .ok (.iload_n 1, 1) := by decide +kernel
theorem dX11_equivalent_2 : decode cX11_equivalent 2 = .ok (.iload_n 2, 1) := by decide +kernel
theorem dX11_equivalent_3 : decode cX11_equivalent 3 = .ok (.iload 4, 2) := by decide +kernel
theorem dX11_equivalent_5 : decode cX11_equivalent 5 = .ok (.invokevirtual 148, 3) := by decide +kernel
theorem dX11_equivalent_8 : decode cX11_equivalent 8 = .ok (.ifCond .eq 14, 3) := by decide +kernel
theorem dX11_equivalent_11 : decode cX11_equivalent 11 = .ok (.aload_n 0, 1) := by decide +kernel
theorem dX11_equivalent_12 : decode cX11_equivalent 12 = .ok (.iload_n 1, 1) := by decide +kernel
theorem dX11_equivalent_13 : decode cX11_equivalent 13 = .ok (.iload_n 3, 1) := by decide +kernel
theorem dX11_equivalent_14 : decode cX11_equivalent 14 = .ok (.iload 4, 2) := by decide +kernel
theorem dX11_equivalent_16 : decode cX11_equivalent 16 = .ok (.invokevirtual 148, 3) := by decide +kernel
theorem dX11_equivalent_19 : decode cX11_equivalent 19 = .ok (.ifCond .ne 5, 3) := by decide +kernel
theorem dX11_equivalent_22 : decode cX11_equivalent 22 = .ok (.iconst (-1), 1) := by decide +kernel
theorem dX11_equivalent_23 : decode cX11_equivalent 23 = .ok (.ireturn, 1) := by decide +kernel
theorem dX11_equivalent_24 : decode cX11_equivalent 24 = .ok (.aload_n 0, 1) := by decide +kernel
theorem dX11_equivalent_25 : decode cX11_equivalent 25 = .ok (.iload_n 1, 1) := by decide +kernel
theorem dX11_equivalent_26 : decode cX11_equivalent 26 = .ok (.invokevirtual 151, 3) := by decide +kernel
theorem dX11_equivalent_29 : decode cX11_equivalent 29 = .ok (.aload_n 0, 1) := by decide +kernel
theorem dX11_equivalent_30 : decode cX11_equivalent 30 = .ok (.iload_n 2, 1) := by decide +kernel
theorem dX11_equivalent_31 : decode cX11_equivalent 31 = .ok (.iload_n 3, 1) := by decide +kernel
theorem dX11_equivalent_32 : decode cX11_equivalent 32 = .ok (.iload 4, 2) := by decide +kernel
theorem dX11_equivalent_34 : decode cX11_equivalent 34 = .ok (.invokevirtual 141, 3) := by decide +kernel
theorem dX11_equivalent_37 : decode cX11_equivalent 37 = .ok (.ifCond .eq 7, 3) := by decide +kernel
theorem dX11_equivalent_40 : decode cX11_equivalent 40 = .ok (.iconst 1, 1) := by decide +kernel
theorem dX11_equivalent_41 : decode cX11_equivalent 41 = .ok (.goto 4, 3) := by decide +kernel
theorem dX11_equivalent_44 : decode cX11_equivalent 44 = .ok (.iconst 0, 1) := by decide +kernel
theorem dX11_equivalent_45 : decode cX11_equivalent 45 = .ok (.ireturn, 1) := by decide +kernel
set_option maxRecDepth 20000 in
theorem ggX11_firstPower_X11_isWord : GoodIn wsX11_firstPower wsX11_isWord := goodIn_r _ [6, 7, 8, 5, 9] rfl (by decide +kernel)
set_option maxRecDepth 20000 in
theorem gX11_firstPower_X11_isWord : GoodIn wsX11_firstPower (va_wsS RX11 115 yX11_isWord wsX11_isWord) := goodIn_app (goodIn_r _ [3, 4, 5] rfl (by decide +kernel)) ggX11_firstPower_X11_isWord
set_option maxRecDepth 20000 in
theorem ggX11_firstPower_X11_take : GoodIn wsX11_firstPower wsX11_take := goodIn_r _ [13, 14, 1, 15, 16, 56, 57, 58, 59, 60, 61, 62, 63, 64, 65, 66, 67, 68, 69, 70, 71, 72, 73, 74, 75, 76, 77, 78, 79, 80, 81, 82, 83, 84, 85, 86, 87, 88, 89, 90, 91] rfl (by decide +kernel)
set_option maxRecDepth 20000 in
theorem gX11_firstPower_X11_take : GoodIn wsX11_firstPower (wsV RX11 151 RX11 yX11_take wsX11_take) := goodIn_app (goodIn_r _ [10, 11, 12, 5] rfl (by decide +kernel)) ggX11_firstPower_X11_take
set_option maxRecDepth 20000 in
theorem ggX11_firstPower_X11_endsAt : GoodIn wsX11_firstPower wsX11_endsAt := goodIn_r _ [20, 2, 21, 22, 23, 5, 24, 25, 26, 27, 28, 29, 30, 31, 32, 33, 15, 34, 35, 36, 37, 38, 39, 40, 41, 42, 43, 44, 45, 46, 47, 48, 49, 50, 51, 52, 53, 54, 55, 56, 57, 58, 59, 60, 61, 62, 63, 64, 65, 66, 67, 68, 69, 70, 71, 72, 73, 74, 75, 76, 77, 78, 79, 80, 81, 82, 83, 84, 85, 86, 87, 88, 89, 90, 91] rfl (by decide +kernel)
set_option maxRecDepth 20000 in
theorem gX11_firstPower_X11_endsAt : GoodIn wsX11_firstPower (wsV RX11 155 RX11 yX11_endsAt wsX11_endsAt) := goodIn_app (goodIn_r _ [17, 18, 19, 5] rfl (by decide +kernel)) ggX11_firstPower_X11_endsAt
theorem dX11_firstPower_0 : decode cX11_firstPower 0 = .ok (.iload_n 1, 1) := by decide +kernel
theorem dX11_firstPower_1 : decode cX11_firstPower 1 = .ok (.invokestatic 115, 3) := by decide +kernel
theorem dX11_firstPower_4 : decode cX11_firstPower 4 = .ok (.ifCond .ne 5, 3) := by decide +kernel
theorem dX11_firstPower_7 : decode cX11_firstPower 7 = .ok (.iconst (-1), 1) := by decide +kernel
theorem dX11_firstPower_8 : decode cX11_firstPower 8 = .ok (.ireturn, 1) := by decide +kernel
theorem dX11_firstPower_9 : decode cX11_firstPower 9 = .ok (.aload_n 0, 1) := by decide +kernel
theorem dX11_firstPower_10 : decode cX11_firstPower 10 = .ok (.iload_n 1, 1) := by decide +kernel
theorem dX11_firstPower_11 : decode cX11_firstPower 11 = .ok (.invokevirtual 151, 3) := by decide +kernel
theorem dX11_firstPower_14 : decode cX11_firstPower 14 = .ok (.iconst 1, 1) := by decide +kernel
theorem dX11_firstPower_15 : decode cX11_firstPower 15 = .ok (.istore_n 2, 1) := by decide +kernel
theorem dX11_firstPower_16 : decode cX11_firstPower 16 = .ok (.iload_n 2, 1) := by decide +kernel
theorem dX11_firstPower_17 : decode cX11_firstPower 17 = .ok (.aload_n 0, 1) := by decide +kernel
theorem dX11_firstPower_18 : decode cX11_firstPower 18 = .ok (.getfield 118, 3) := by decide +kernel
theorem dX11_firstPower_21 : decode cX11_firstPower 21 = .ok (.if_icmp .gt 33, 3) := by decide +kernel
theorem dX11_firstPower_24 : decode cX11_firstPower 24 = .ok (.aload_n 0, 1) := by decide +kernel
theorem dX11_firstPower_25 : decode cX11_firstPower 25 = .ok (.iload_n 2, 1) := by decide +kernel
theorem dX11_firstPower_26 : decode cX11_firstPower 26 = .ok (.invokevirtual 155, 3) := by decide +kernel
theorem dX11_firstPower_29 : decode cX11_firstPower 29 = .ok (.istore_n 3, 1) := by decide +kernel
theorem dX11_firstPower_30 : decode cX11_firstPower 30 = .ok (.iload_n 3, 1) := by decide +kernel
theorem dX11_firstPower_31 : decode cX11_firstPower 31 = .ok (.ifCond .le 17, 3) := by decide +kernel
theorem dX11_firstPower_34 : decode cX11_firstPower 34 = .ok (.bipush 100, 2) := by decide +kernel
theorem dX11_firstPower_36 : decode cX11_firstPower 36 = .ok (.iload_n 2, 1) := by decide +kernel
theorem dX11_firstPower_37 : decode cX11_firstPower 37 = .ok (.aload_n 0, 1) := by decide +kernel
theorem dX11_firstPower_38 : decode cX11_firstPower 38 = .ok (.getfield 13, 3) := by decide +kernel
theorem dX11_firstPower_41 : decode cX11_firstPower 41 = .ok (.iload_n 3, 1) := by decide +kernel
theorem dX11_firstPower_42 : decode cX11_firstPower 42 = .ok (.imul, 1) := by decide +kernel
theorem dX11_firstPower_43 : decode cX11_firstPower 43 = .ok (.isub, 1) := by decide +kernel
theorem dX11_firstPower_44 : decode cX11_firstPower 44 = .ok (.imul, 1) := by decide +kernel
theorem dX11_firstPower_45 : decode cX11_firstPower 45 = .ok (.iload_n 3, 1) := by decide +kernel
theorem dX11_firstPower_46 : decode cX11_firstPower 46 = .ok (.iadd, 1) := by decide +kernel
theorem dX11_firstPower_47 : decode cX11_firstPower 47 = .ok (.ireturn, 1) := by decide +kernel
theorem dX11_firstPower_48 : decode cX11_firstPower 48 = .ok (.iinc 2 1, 3) := by decide +kernel
theorem dX11_firstPower_51 : decode cX11_firstPower 51 = .ok (.goto (-35), 3) := by decide +kernel
theorem dX11_firstPower_54 : decode cX11_firstPower 54 = .ok (.bipush (-2), 2) := by decide +kernel
theorem dX11_firstPower_56 : decode cX11_firstPower 56 = .ok (.ireturn, 1) := by decide +kernel
set_option maxRecDepth 20000 in
theorem ggX11_powerCount_X11_isWord : GoodIn wsX11_powerCount wsX11_isWord := goodIn_r _ [6, 7, 8, 5, 9] rfl (by decide +kernel)
set_option maxRecDepth 20000 in
theorem gX11_powerCount_X11_isWord : GoodIn wsX11_powerCount (va_wsS RX11 115 yX11_isWord wsX11_isWord) := goodIn_app (goodIn_r _ [3, 4, 5] rfl (by decide +kernel)) ggX11_powerCount_X11_isWord
set_option maxRecDepth 20000 in
theorem ggX11_powerCount_X11_take : GoodIn wsX11_powerCount wsX11_take := goodIn_r _ [13, 14, 1, 15, 16, 52, 53, 54, 55, 56, 57, 58, 59, 60, 61, 62, 63, 64, 65, 66, 67, 68, 69, 70, 71, 72, 73, 74, 75, 76, 77, 78, 79, 80, 81, 82, 83, 84, 85, 86, 87] rfl (by decide +kernel)
set_option maxRecDepth 20000 in
theorem gX11_powerCount_X11_take : GoodIn wsX11_powerCount (wsV RX11 151 RX11 yX11_take wsX11_take) := goodIn_app (goodIn_r _ [10, 11, 12, 5] rfl (by decide +kernel)) ggX11_powerCount_X11_take
set_option maxRecDepth 20000 in
theorem ggX11_powerCount_X11_isPower : GoodIn wsX11_powerCount wsX11_isPower := goodIn_r _ [20, 2, 21, 22, 23, 5, 24, 25, 26, 27, 28, 29, 15, 30, 31, 32, 33, 34, 35, 36, 37, 38, 39, 40, 41, 42, 43, 44, 45, 46, 47, 48, 49, 50, 51, 52, 53, 54, 55, 56, 57, 58, 59, 60, 61, 62, 63, 64, 65, 66, 67, 68, 69, 70, 71, 72, 73, 74, 75, 76, 77, 78, 79, 80, 81, 82, 83, 84, 85, 86, 87] rfl (by decide +kernel)
set_option maxRecDepth 20000 in
theorem gX11_powerCount_X11_isPower : GoodIn wsX11_powerCount (wsV RX11 144 RX11 yX11_isPower wsX11_isPower) := goodIn_app (goodIn_r _ [17, 18, 19, 5] rfl (by decide +kernel)) ggX11_powerCount_X11_isPower
theorem dX11_powerCount_0 : decode cX11_powerCount 0 = .ok (.iload_n 1, 1) := by decide +kernel
theorem dX11_powerCount_1 : decode cX11_powerCount 1 = .ok (.invokestatic 115, 3) := by decide +kernel
theorem dX11_powerCount_4 : decode cX11_powerCount 4 = .ok (.ifCond .ne 5, 3) := by decide +kernel
theorem dX11_powerCount_7 : decode cX11_powerCount 7 = .ok (.iconst (-1), 1) := by decide +kernel
theorem dX11_powerCount_8 : decode cX11_powerCount 8 = .ok (.ireturn, 1) := by decide +kernel
theorem dX11_powerCount_9 : decode cX11_powerCount 9 = .ok (.aload_n 0, 1) := by decide +kernel
theorem dX11_powerCount_10 : decode cX11_powerCount 10 = .ok (.iload_n 1, 1) := by decide +kernel
theorem dX11_powerCount_11 : decode cX11_powerCount 11 = .ok (.invokevirtual 151, 3) := by decide +kernel
theorem dX11_powerCount_14 : decode cX11_powerCount 14 = .ok (.iconst 0, 1) := by decide +kernel
theorem dX11_powerCount_15 : decode cX11_powerCount 15 = .ok (.istore_n 2, 1) := by decide +kernel
theorem dX11_powerCount_16 : decode cX11_powerCount 16 = .ok (.iconst 1, 1) := by decide +kernel
theorem dX11_powerCount_17 : decode cX11_powerCount 17 = .ok (.istore_n 3, 1) := by decide +kernel
theorem dX11_powerCount_18 : decode cX11_powerCount 18 = .ok (.iload_n 3, 1) := by decide +kernel
theorem dX11_powerCount_19 : decode cX11_powerCount 19 = .ok (.aload_n 0, 1) := by decide +kernel
theorem dX11_powerCount_20 : decode cX11_powerCount 20 = .ok (.getfield 118, 3) := by decide +kernel
theorem dX11_powerCount_23 : decode cX11_powerCount 23 = .ok (.if_icmp .gt 47, 3) := by decide +kernel
theorem dX11_powerCount_26 : decode cX11_powerCount 26 = .ok (.iconst 1, 1) := by decide +kernel
theorem dX11_powerCount_27 : decode cX11_powerCount 27 = .ok (.istore 4, 2) := by decide +kernel
theorem dX11_powerCount_29 : decode cX11_powerCount 29 = .ok (.aload_n 0, 1) := by decide +kernel
theorem dX11_powerCount_30 : decode cX11_powerCount 30 = .ok (.getfield 13, 3) := by decide +kernel
theorem dX11_powerCount_33 : decode cX11_powerCount 33 = .ok (.iload 4, 2) := by decide +kernel
theorem dX11_powerCount_35 : decode cX11_powerCount 35 = .ok (.imul, 1) := by decide +kernel
theorem dX11_powerCount_36 : decode cX11_powerCount 36 = .ok (.iload_n 3, 1) := by decide +kernel
theorem dX11_powerCount_37 : decode cX11_powerCount 37 = .ok (.if_icmp .gt 27, 3) := by decide +kernel
theorem dX11_powerCount_40 : decode cX11_powerCount 40 = .ok (.iload_n 2, 1) := by decide +kernel
theorem dX11_powerCount_41 : decode cX11_powerCount 41 = .ok (.aload_n 0, 1) := by decide +kernel
theorem dX11_powerCount_42 : decode cX11_powerCount 42 = .ok (.iload_n 3, 1) := by decide +kernel
theorem dX11_powerCount_43 : decode cX11_powerCount 43 = .ok (.iload 4, 2) := by decide +kernel
theorem dX11_powerCount_45 : decode cX11_powerCount 45 = .ok (.invokevirtual 144, 3) := by decide +kernel
theorem dX11_powerCount_48 : decode cX11_powerCount 48 = .ok (.ifCond .eq 7, 3) := by decide +kernel
theorem dX11_powerCount_51 : decode cX11_powerCount 51 = .ok (.iconst 1, 1) := by decide +kernel
theorem dX11_powerCount_52 : decode cX11_powerCount 52 = .ok (.goto 4, 3) := by decide +kernel
theorem dX11_powerCount_55 : decode cX11_powerCount 55 = .ok (.iconst 0, 1) := by decide +kernel
theorem dX11_powerCount_56 : decode cX11_powerCount 56 = .ok (.iadd, 1) := by decide +kernel
theorem dX11_powerCount_57 : decode cX11_powerCount 57 = .ok (.istore_n 2, 1) := by decide +kernel
theorem dX11_powerCount_58 : decode cX11_powerCount 58 = .ok (.iinc 4 1, 3) := by decide +kernel
theorem dX11_powerCount_61 : decode cX11_powerCount 61 = .ok (.goto (-32), 3) := by decide +kernel
theorem dX11_powerCount_64 : decode cX11_powerCount 64 = .ok (.iinc 3 1, 3) := by decide +kernel
theorem dX11_powerCount_67 : decode cX11_powerCount 67 = .ok (.goto (-49), 3) := by decide +kernel
theorem dX11_powerCount_70 : decode cX11_powerCount 70 = .ok (.iload_n 2, 1) := by decide +kernel
theorem dX11_powerCount_71 : decode cX11_powerCount 71 = .ok (.ireturn, 1) := by decide +kernel
set_option maxRecDepth 20000 in
theorem ggX11_freeOf_X11_take : GoodIn wsX11_freeOf wsX11_take := goodIn_r _ [6, 7, 1, 8, 9, 50, 51, 52, 53, 54, 55, 56, 57, 58, 59, 60, 61, 62, 63, 64, 65, 66, 67, 68, 69, 70, 71, 72, 73, 74, 75, 76, 77, 78, 79, 80, 81, 82, 83, 84, 85] rfl (by decide +kernel)
set_option maxRecDepth 20000 in
theorem gX11_freeOf_X11_take : GoodIn wsX11_freeOf (wsV RX11 151 RX11 yX11_take wsX11_take) := goodIn_app (goodIn_r _ [2, 3, 4, 5] rfl (by decide +kernel)) ggX11_freeOf_X11_take
set_option maxRecDepth 20000 in
theorem ggX11_freeOf_X11_endsAt : GoodIn wsX11_freeOf wsX11_endsAt := goodIn_r _ [13, 14, 15, 16, 17, 5, 18, 19, 20, 21, 22, 23, 24, 25, 26, 27, 8, 28, 29, 30, 31, 32, 33, 34, 35, 36, 37, 38, 39, 40, 41, 42, 43, 44, 45, 46, 47, 48, 49, 50, 51, 52, 53, 54, 55, 56, 57, 58, 59, 60, 61, 62, 63, 64, 65, 66, 67, 68, 69, 70, 71, 72, 73, 74, 75, 76, 77, 78, 79, 80, 81, 82, 83, 84, 85] rfl (by decide +kernel)
set_option maxRecDepth 20000 in
theorem gX11_freeOf_X11_endsAt : GoodIn wsX11_freeOf (wsV RX11 155 RX11 yX11_endsAt wsX11_endsAt) := goodIn_app (goodIn_r _ [10, 11, 12, 5] rfl (by decide +kernel)) ggX11_freeOf_X11_endsAt
theorem dX11_freeOf_0 : decode cX11_freeOf 0 = .ok (.aload_n 0, 1) := by decide +kernel
theorem dX11_freeOf_1 : decode cX11_freeOf 1 = .ok (.iload_n 1, 1) := by decide +kernel
theorem dX11_freeOf_2 : decode cX11_freeOf 2 = .ok (.invokevirtual 151, 3) := by decide +kernel
theorem dX11_freeOf_5 : decode cX11_freeOf 5 = .ok (.iconst 1, 1) := by decide +kernel
theorem dX11_freeOf_6 : decode cX11_freeOf 6 = .ok (.istore_n 2, 1) := by decide +kernel
theorem dX11_freeOf_7 : decode cX11_freeOf 7 = .ok (.iload_n 2, 1) := by decide +kernel
theorem dX11_freeOf_8 : decode cX11_freeOf 8 = .ok (.aload_n 0, 1) := by decide +kernel
theorem dX11_freeOf_9 : decode cX11_freeOf 9 = .ok (.getfield 118, 3) := by decide +kernel
theorem dX11_freeOf_12 : decode cX11_freeOf 12 = .ok (.if_icmp .gt 17, 3) := by decide +kernel
theorem dX11_freeOf_15 : decode cX11_freeOf 15 = .ok (.aload_n 0, 1) := by decide +kernel
theorem dX11_freeOf_16 : decode cX11_freeOf 16 = .ok (.iload_n 2, 1) := by decide +kernel
theorem dX11_freeOf_17 : decode cX11_freeOf 17 = .ok (.invokevirtual 155, 3) := by decide +kernel
theorem dX11_freeOf_20 : decode cX11_freeOf 20 = .ok (.ifCond .ne 9, 3) := by decide +kernel
theorem dX11_freeOf_23 : decode cX11_freeOf 23 = .ok (.iinc 2 1, 3) := by decide +kernel
theorem dX11_freeOf_26 : decode cX11_freeOf 26 = .ok (.goto (-19), 3) := by decide +kernel
theorem dX11_freeOf_29 : decode cX11_freeOf 29 = .ok (.iload_n 2, 1) := by decide +kernel
theorem dX11_freeOf_30 : decode cX11_freeOf 30 = .ok (.iconst 1, 1) := by decide +kernel
theorem dX11_freeOf_31 : decode cX11_freeOf 31 = .ok (.isub, 1) := by decide +kernel
theorem dX11_freeOf_32 : decode cX11_freeOf 32 = .ok (.ireturn, 1) := by decide +kernel
set_option maxRecDepth 20000 in
theorem ggX11_freePrefix_X11_isWord : GoodIn wsX11_freePrefix wsX11_isWord := goodIn_r _ [4, 5, 6, 3, 7] rfl (by decide +kernel)
set_option maxRecDepth 20000 in
theorem gX11_freePrefix_X11_isWord : GoodIn wsX11_freePrefix (va_wsS RX11 115 yX11_isWord wsX11_isWord) := goodIn_app (goodIn_r _ [1, 2, 3] rfl (by decide +kernel)) ggX11_freePrefix_X11_isWord
set_option maxRecDepth 20000 in
theorem ggX11_freePrefix_X11_freeOf : GoodIn wsX11_freePrefix wsX11_freeOf := goodIn_r _ [11, 12, 13, 14, 15, 3, 16, 17, 18, 19, 20, 21, 22, 23, 24, 25, 26, 27, 28, 29, 30, 31, 32, 33, 34, 35, 36, 37, 38, 39, 40, 41, 42, 43, 44, 45, 46, 47, 48, 49, 50, 51, 52, 53, 54, 55, 56, 57, 58, 59, 60, 61, 62, 63, 64, 65, 66, 67, 68, 69, 70, 71, 72, 73, 74, 75, 76, 77, 78, 79, 80, 81, 82, 83, 84, 85, 86, 87, 88, 89, 90, 91, 92, 93, 94, 95] rfl (by decide +kernel)
set_option maxRecDepth 20000 in
theorem gX11_freePrefix_X11_freeOf : GoodIn wsX11_freePrefix (wsV RX11 158 RX11 yX11_freeOf wsX11_freeOf) := goodIn_app (goodIn_r _ [8, 9, 10, 3] rfl (by decide +kernel)) ggX11_freePrefix_X11_freeOf
theorem dX11_freePrefix_0 : decode cX11_freePrefix 0 = .ok (.iload_n 1, 1) := by decide +kernel
theorem dX11_freePrefix_1 : decode cX11_freePrefix 1 = .ok (.invokestatic 115, 3) := by decide +kernel
theorem dX11_freePrefix_4 : decode cX11_freePrefix 4 = .ok (.ifCond .eq 11, 3) := by decide +kernel
theorem dX11_freePrefix_7 : decode cX11_freePrefix 7 = .ok (.aload_n 0, 1) := by decide +kernel
theorem dX11_freePrefix_8 : decode cX11_freePrefix 8 = .ok (.iload_n 1, 1) := by decide +kernel
theorem dX11_freePrefix_9 : decode cX11_freePrefix 9 = .ok (.invokevirtual 158, 3) := by decide +kernel
theorem dX11_freePrefix_12 : decode cX11_freePrefix 12 = .ok (.goto 4, 3) := by decide +kernel
theorem dX11_freePrefix_15 : decode cX11_freePrefix 15 = .ok (.iconst (-1), 1) := by decide +kernel
theorem dX11_freePrefix_16 : decode cX11_freePrefix 16 = .ok (.ireturn, 1) := by decide +kernel
set_option maxRecDepth 20000 in
theorem ggX11_extensions_X11_isWord : GoodIn wsX11_extensions wsX11_isWord := goodIn_r _ [8, 9, 10, 7, 11] rfl (by decide +kernel)
set_option maxRecDepth 20000 in
theorem gX11_extensions_X11_isWord : GoodIn wsX11_extensions (va_wsS RX11 115 yX11_isWord wsX11_isWord) := goodIn_app (goodIn_r _ [5, 6, 7] rfl (by decide +kernel)) ggX11_extensions_X11_isWord
set_option maxRecDepth 20000 in
theorem ggX11_extensions_X11_freeOf : GoodIn wsX11_extensions wsX11_freeOf := goodIn_r _ [15, 4, 16, 17, 18, 7, 19, 1, 3, 20, 21, 22, 23, 24, 25, 26, 27, 28, 29, 30, 31, 32, 33, 34, 35, 36, 37, 38, 39, 40, 41, 42, 43, 44, 45, 46, 47, 2, 48, 49, 50, 51, 52, 53, 54, 55, 56, 57, 58, 59, 60, 61, 62, 63, 64, 65, 66, 67, 68, 69, 70, 71, 72, 73, 74, 75, 76, 77, 78, 79, 80, 81, 82, 83, 84, 85, 86, 87, 88, 89, 90, 91, 92, 93, 94, 95] rfl (by decide +kernel)
set_option maxRecDepth 20000 in
theorem gX11_extensions_X11_freeOf : GoodIn wsX11_extensions (wsV RX11 158 RX11 yX11_freeOf wsX11_freeOf) := goodIn_app (goodIn_r _ [12, 13, 14, 7] rfl (by decide +kernel)) ggX11_extensions_X11_freeOf
set_option maxRecDepth 20000 in
theorem ggX11_extensions_X11_endsAt : GoodIn wsX11_extensions wsX11_endsAt := goodIn_r _ [24, 25, 26, 27, 28, 7, 29, 30, 31, 32, 33, 34, 35, 36, 37, 38, 3, 39, 40, 41, 42, 43, 44, 45, 46, 47, 2, 48, 49, 50, 51, 52, 53, 54, 55, 56, 57, 58, 59, 60, 61, 62, 63, 64, 65, 66, 67, 68, 69, 70, 71, 72, 73, 74, 75, 76, 77, 78, 79, 80, 81, 82, 83, 84, 85, 86, 87, 88, 89, 90, 91, 92, 93, 94, 95] rfl (by decide +kernel)
set_option maxRecDepth 20000 in
theorem gX11_extensions_X11_endsAt : GoodIn wsX11_extensions (wsV RX11 155 RX11 yX11_endsAt wsX11_endsAt) := goodIn_app (goodIn_r _ [21, 22, 23, 7] rfl (by decide +kernel)) ggX11_extensions_X11_endsAt
theorem dX11_extensions_0 : decode cX11_extensions 0 = .ok (.iload_n 1, 1) := by decide +kernel
theorem dX11_extensions_1 : decode cX11_extensions 1 = .ok (.invokestatic 115, 3) := by decide +kernel
theorem dX11_extensions_4 : decode cX11_extensions 4 = .ok (.ifCond .ne 5, 3) := by decide +kernel
theorem dX11_extensions_7 : decode cX11_extensions 7 = .ok (.iconst (-1), 1) := by decide +kernel
theorem dX11_extensions_8 : decode cX11_extensions 8 = .ok (.ireturn, 1) := by decide +kernel
theorem dX11_extensions_9 : decode cX11_extensions 9 = .ok (.aload_n 0, 1) := by decide +kernel
theorem dX11_extensions_10 : decode cX11_extensions 10 = .ok (.iload_n 1, 1) := by decide +kernel
theorem dX11_extensions_11 : decode cX11_extensions 11 = .ok (.invokevirtual 158, 3) := by decide +kernel
theorem dX11_extensions_14 : decode cX11_extensions 14 = .ok (.aload_n 0, 1) := by decide +kernel
theorem dX11_extensions_15 : decode cX11_extensions 15 = .ok (.getfield 26, 3) := by decide +kernel
theorem dX11_extensions_18 : decode cX11_extensions 18 = .ok (.iload_n 1, 1) := by decide +kernel
theorem dX11_extensions_19 : decode cX11_extensions 19 = .ok (.iaload, 1) := by decide +kernel
theorem dX11_extensions_20 : decode cX11_extensions 20 = .ok (.if_icmp .ge 6, 3) := by decide +kernel
theorem dX11_extensions_23 : decode cX11_extensions 23 = .ok (.bipush (-5), 2) := by decide +kernel
theorem dX11_extensions_25 : decode cX11_extensions 25 = .ok (.ireturn, 1) := by decide +kernel
theorem dX11_extensions_26 : decode cX11_extensions 26 = .ok (.iconst 0, 1) := by decide +kernel
theorem dX11_extensions_27 : decode cX11_extensions 27 = .ok (.istore_n 2, 1) := by decide +kernel
theorem dX11_extensions_28 : decode cX11_extensions 28 = .ok (.iconst 0, 1) := by decide +kernel
theorem dX11_extensions_29 : decode cX11_extensions 29 = .ok (.istore_n 3, 1) := by decide +kernel
theorem dX11_extensions_30 : decode cX11_extensions 30 = .ok (.iload_n 3, 1) := by decide +kernel
theorem dX11_extensions_31 : decode cX11_extensions 31 = .ok (.aload_n 0, 1) := by decide +kernel
theorem dX11_extensions_32 : decode cX11_extensions 32 = .ok (.getfield 16, 3) := by decide +kernel
theorem dX11_extensions_35 : decode cX11_extensions 35 = .ok (.if_icmp .ge 42, 3) := by decide +kernel
theorem dX11_extensions_38 : decode cX11_extensions 38 = .ok (.aload_n 0, 1) := by decide +kernel
theorem dX11_extensions_39 : decode cX11_extensions 39 = .ok (.getfield 38, 3) := by decide +kernel
theorem dX11_extensions_42 : decode cX11_extensions 42 = .ok (.aload_n 0, 1) := by decide +kernel
theorem dX11_extensions_43 : decode cX11_extensions 43 = .ok (.getfield 118, 3) := by decide +kernel
theorem dX11_extensions_46 : decode cX11_extensions 46 = .ok (.iload_n 3, 1) := by decide +kernel
theorem dX11_extensions_47 : decode cX11_extensions 47 = .ok (.iastore, 1) := by decide +kernel
theorem dX11_extensions_48 : decode cX11_extensions 48 = .ok (.iload_n 2, 1) := by decide +kernel
theorem dX11_extensions_49 : decode cX11_extensions 49 = .ok (.aload_n 0, 1) := by decide +kernel
theorem dX11_extensions_50 : decode cX11_extensions 50 = .ok (.aload_n 0, 1) := by decide +kernel
theorem dX11_extensions_51 : decode cX11_extensions 51 = .ok (.getfield 118, 3) := by decide +kernel
theorem dX11_extensions_54 : decode cX11_extensions 54 = .ok (.iconst 1, 1) := by decide +kernel
theorem dX11_extensions_55 : decode cX11_extensions 55 = .ok (.iadd, 1) := by decide +kernel
theorem dX11_extensions_56 : decode cX11_extensions 56 = .ok (.invokevirtual 155, 3) := by decide +kernel
theorem dX11_extensions_59 : decode cX11_extensions 59 = .ok (.ifCond .ne 9, 3) := by decide +kernel
theorem dX11_extensions_62 : decode cX11_extensions 62 = .ok (.iconst 1, 1) := by decide +kernel
theorem dX11_extensions_63 : decode cX11_extensions 63 = .ok (.iload_n 3, 1) := by decide +kernel
theorem dX11_extensions_64 : decode cX11_extensions 64 = .ok (.ishl, 1) := by decide +kernel
theorem dX11_extensions_65 : decode cX11_extensions 65 = .ok (.goto 4, 3) := by decide +kernel
theorem dX11_extensions_68 : decode cX11_extensions 68 = .ok (.iconst 0, 1) := by decide +kernel
theorem dX11_extensions_69 : decode cX11_extensions 69 = .ok (.ior, 1) := by decide +kernel
theorem dX11_extensions_70 : decode cX11_extensions 70 = .ok (.istore_n 2, 1) := by decide +kernel
theorem dX11_extensions_71 : decode cX11_extensions 71 = .ok (.iinc 3 1, 3) := by decide +kernel
theorem dX11_extensions_74 : decode cX11_extensions 74 = .ok (.goto (-44), 3) := by decide +kernel
theorem dX11_extensions_77 : decode cX11_extensions 77 = .ok (.iload_n 2, 1) := by decide +kernel
theorem dX11_extensions_78 : decode cX11_extensions 78 = .ok (.ireturn, 1) := by decide +kernel
set_option maxRecDepth 20000 in
theorem ggX11_goOn_X11_endsAt : GoodIn wsX11_goOn wsX11_endsAt := goodIn_r _ [9, 10, 11, 12, 13, 8, 14, 15, 16, 17, 18, 19, 20, 21, 22, 23, 3, 24, 25, 26, 27, 28, 29, 30, 31, 32, 1, 33, 34, 35, 36, 37, 38, 39, 40, 41, 42, 43, 44, 45, 46, 47, 48, 49, 50, 51, 52, 53, 54, 55, 56, 57, 58, 59, 60, 61, 62, 63, 64, 65, 66, 67, 68, 69, 70, 71, 72, 73, 74, 75, 76, 77, 78, 79, 80] rfl (by decide +kernel)
set_option maxRecDepth 20000 in
theorem gX11_goOn_X11_endsAt : GoodIn wsX11_goOn (wsV RX11 155 RX11 yX11_endsAt wsX11_endsAt) := goodIn_app (goodIn_r _ [5, 6, 7, 8] rfl (by decide +kernel)) ggX11_goOn_X11_endsAt
theorem dX11_goOn_0 : decode cX11_goOn 0 = .ok (.iload_n 1, 1) := by decide +kernel
theorem dX11_goOn_1 : decode cX11_goOn 1 = .ok (.istore_n 3, 1) := by decide +kernel
theorem dX11_goOn_2 : decode cX11_goOn 2 = .ok (.iload_n 3, 1) := by decide +kernel
theorem dX11_goOn_3 : decode cX11_goOn 3 = .ok (.aload_n 0, 1) := by decide +kernel
theorem dX11_goOn_4 : decode cX11_goOn 4 = .ok (.getfield 16, 3) := by decide +kernel
theorem dX11_goOn_7 : decode cX11_goOn 7 = .ok (.if_icmp .ge 65, 3) := by decide +kernel
theorem dX11_goOn_10 : decode cX11_goOn 10 = .ok (.aload_n 0, 1) := by decide +kernel
theorem dX11_goOn_11 : decode cX11_goOn 11 = .ok (.getfield 161, 3) := by decide +kernel
theorem dX11_goOn_14 : decode cX11_goOn 14 = .ok (.iload_n 2, 1) := by decide +kernel
theorem dX11_goOn_15 : decode cX11_goOn 15 = .ok (.if_icmp .ne 6, 3) := by decide +kernel
theorem dX11_goOn_18 : decode cX11_goOn 18 = .ok (.bipush (-4), 2) := by decide +kernel
theorem dX11_goOn_20 : decode cX11_goOn 20 = .ok (.ireturn, 1) := by decide +kernel
theorem dX11_goOn_21 : decode cX11_goOn 21 = .ok (.aload_n 0, 1) := by decide +kernel
theorem dX11_goOn_22 : decode cX11_goOn 22 = .ok (.dup, 1) := by decide +kernel
theorem dX11_goOn_23 : decode cX11_goOn 23 = .ok (.getfield 161, 3) := by decide +kernel
theorem dX11_goOn_26 : decode cX11_goOn 26 = .ok (.iconst 1, 1) := by decide +kernel
theorem dX11_goOn_27 : decode cX11_goOn 27 = .ok (.iadd, 1) := by decide +kernel
theorem dX11_goOn_28 : decode cX11_goOn 28 = .ok (.putfield 161, 3) := by decide +kernel
theorem dX11_goOn_31 : decode cX11_goOn 31 = .ok (.aload_n 0, 1) := by decide +kernel
theorem dX11_goOn_32 : decode cX11_goOn 32 = .ok (.getfield 38, 3) := by decide +kernel
theorem dX11_goOn_35 : decode cX11_goOn 35 = .ok (.aload_n 0, 1) := by decide +kernel
theorem dX11_goOn_36 : decode cX11_goOn 36 = .ok (.getfield 118, 3) := by decide +kernel
theorem dX11_goOn_39 : decode cX11_goOn 39 = .ok (.iload_n 3, 1) := by decide +kernel
theorem dX11_goOn_40 : decode cX11_goOn 40 = .ok (.iastore, 1) := by decide +kernel
theorem dX11_goOn_41 : decode cX11_goOn 41 = .ok (.aload_n 0, 1) := by decide +kernel
theorem dX11_goOn_42 : decode cX11_goOn 42 = .ok (.aload_n 0, 1) := by decide +kernel
theorem dX11_goOn_43 : decode cX11_goOn 43 = .ok (.getfield 118, 3) := by decide +kernel
theorem dX11_goOn_46 : decode cX11_goOn 46 = .ok (.iconst 1, 1) := by decide +kernel
theorem dX11_goOn_47 : decode cX11_goOn 47 = .ok (.iadd, 1) := by decide +kernel
theorem dX11_goOn_48 : decode cX11_goOn 48 = .ok (.invokevirtual 155, 3) := by decide +kernel
theorem dX11_goOn_51 : decode cX11_goOn 51 = .ok (.ifCond .ne 15, 3) := by decide +kernel
theorem dX11_goOn_54 : decode cX11_goOn 54 = .ok (.aload_n 0, 1) := by decide +kernel
theorem dX11_goOn_55 : decode cX11_goOn 55 = .ok (.dup, 1) := by decide +kernel
theorem dX11_goOn_56 : decode cX11_goOn 56 = .ok (.getfield 118, 3) := by decide +kernel
theorem dX11_goOn_59 : decode cX11_goOn 59 = .ok (.iconst 1, 1) := by decide +kernel
theorem dX11_goOn_60 : decode cX11_goOn 60 = .ok (.iadd, 1) := by decide +kernel
theorem dX11_goOn_61 : decode cX11_goOn 61 = .ok (.putfield 118, 3) := by decide +kernel
theorem dX11_goOn_64 : decode cX11_goOn 64 = .ok (.iload_n 3, 1) := by decide +kernel
theorem dX11_goOn_65 : decode cX11_goOn 65 = .ok (.ireturn, 1) := by decide +kernel
theorem dX11_goOn_66 : decode cX11_goOn 66 = .ok (.iinc 3 1, 3) := by decide +kernel
theorem dX11_goOn_69 : decode cX11_goOn 69 = .ok (.goto (-67), 3) := by decide +kernel
theorem dX11_goOn_72 : decode cX11_goOn 72 = .ok (.bipush (-2), 2) := by decide +kernel
theorem dX11_goOn_74 : decode cX11_goOn 74 = .ok (.ireturn, 1) := by decide +kernel
set_option maxRecDepth 20000 in
theorem ggX11_search_X11_goOn : GoodIn wsX11_search wsX11_goOn := goodIn_r _ [8, 9, 2, 3, 1, 10, 11, 12, 7, 13, 14, 15, 16, 17, 18, 19, 20, 21, 22, 23, 24, 25, 26, 27, 28, 29, 30, 31, 32, 33, 34, 35, 36, 37, 38, 39, 40, 41, 42, 43, 44, 45, 46, 47, 48, 49, 50, 51, 52, 53, 54, 55, 56, 57, 58, 59, 60, 61, 62, 63, 64, 65, 66, 67, 68, 69, 70, 71, 72, 73, 74, 75, 76, 77, 78, 79, 80, 81, 82, 83, 84] rfl (by decide +kernel)
set_option maxRecDepth 20000 in
theorem gX11_search_X11_goOn : GoodIn wsX11_search (wsV RX11 164 RX11 yX11_goOn wsX11_goOn) := goodIn_app (goodIn_r _ [4, 5, 6, 7] rfl (by decide +kernel)) ggX11_search_X11_goOn
theorem dX11_search_0 : decode cX11_search 0 = .ok (.aload_n 0, 1) := by decide +kernel
theorem dX11_search_1 : decode cX11_search 1 = .ok (.iconst 0, 1) := by decide +kernel
theorem dX11_search_2 : decode cX11_search 2 = .ok (.putfield 118, 3) := by decide +kernel
theorem dX11_search_5 : decode cX11_search 5 = .ok (.aload_n 0, 1) := by decide +kernel
theorem dX11_search_6 : decode cX11_search 6 = .ok (.iconst 0, 1) := by decide +kernel
theorem dX11_search_7 : decode cX11_search 7 = .ok (.putfield 161, 3) := by decide +kernel
theorem dX11_search_10 : decode cX11_search 10 = .ok (.iconst 0, 1) := by decide +kernel
theorem dX11_search_11 : decode cX11_search 11 = .ok (.istore_n 2, 1) := by decide +kernel
theorem dX11_search_12 : decode cX11_search 12 = .ok (.aload_n 0, 1) := by decide +kernel
theorem dX11_search_13 : decode cX11_search 13 = .ok (.getfield 118, 3) := by decide +kernel
theorem dX11_search_16 : decode cX11_search 16 = .ok (.iload_n 1, 1) := by decide +kernel
theorem dX11_search_17 : decode cX11_search 17 = .ok (.if_icmp .ge 64, 3) := by decide +kernel
theorem dX11_search_20 : decode cX11_search 20 = .ok (.aload_n 0, 1) := by decide +kernel
theorem dX11_search_21 : decode cX11_search 21 = .ok (.iload_n 2, 1) := by decide +kernel
theorem dX11_search_22 : decode cX11_search 22 = .ok (.sipush 20000, 3) := by decide +kernel
theorem dX11_search_25 : decode cX11_search 25 = .ok (.invokevirtual 164, 3) := by decide +kernel
theorem dX11_search_28 : decode cX11_search 28 = .ok (.istore_n 3, 1) := by decide +kernel
theorem dX11_search_29 : decode cX11_search 29 = .ok (.iload_n 3, 1) := by decide +kernel
theorem dX11_search_30 : decode cX11_search 30 = .ok (.bipush (-4), 2) := by decide +kernel
theorem dX11_search_32 : decode cX11_search 32 = .ok (.if_icmp .ne 6, 3) := by decide +kernel
theorem dX11_search_35 : decode cX11_search 35 = .ok (.bipush (-4), 2) := by decide +kernel
theorem dX11_search_37 : decode cX11_search 37 = .ok (.ireturn, 1) := by decide +kernel
theorem dX11_search_38 : decode cX11_search 38 = .ok (.iconst 0, 1) := by decide +kernel
theorem dX11_search_39 : decode cX11_search 39 = .ok (.istore_n 2, 1) := by decide +kernel
theorem dX11_search_40 : decode cX11_search 40 = .ok (.iload_n 3, 1) := by decide +kernel
theorem dX11_search_41 : decode cX11_search 41 = .ok (.bipush (-2), 2) := by decide +kernel
theorem dX11_search_43 : decode cX11_search 43 = .ok (.if_icmp .ne 35, 3) := by decide +kernel
theorem dX11_search_46 : decode cX11_search 46 = .ok (.aload_n 0, 1) := by decide +kernel
theorem dX11_search_47 : decode cX11_search 47 = .ok (.getfield 118, 3) := by decide +kernel
theorem dX11_search_50 : decode cX11_search 50 = .ok (.ifCond .ne 6, 3) := by decide +kernel
theorem dX11_search_53 : decode cX11_search 53 = .ok (.bipush (-2), 2) := by decide +kernel
theorem dX11_search_55 : decode cX11_search 55 = .ok (.ireturn, 1) := by decide +kernel
theorem dX11_search_56 : decode cX11_search 56 = .ok (.aload_n 0, 1) := by decide +kernel
theorem dX11_search_57 : decode cX11_search 57 = .ok (.dup, 1) := by decide +kernel
theorem dX11_search_58 : decode cX11_search 58 = .ok (.getfield 118, 3) := by decide +kernel
theorem dX11_search_61 : decode cX11_search 61 = .ok (.iconst 1, 1) := by decide +kernel
theorem dX11_search_62 : decode cX11_search 62 = .ok (.isub, 1) := by decide +kernel
theorem dX11_search_63 : decode cX11_search 63 = .ok (.putfield 118, 3) := by decide +kernel
theorem dX11_search_66 : decode cX11_search 66 = .ok (.aload_n 0, 1) := by decide +kernel
theorem dX11_search_67 : decode cX11_search 67 = .ok (.getfield 38, 3) := by decide +kernel
theorem dX11_search_70 : decode cX11_search 70 = .ok (.aload_n 0, 1) := by decide +kernel
theorem dX11_search_71 : decode cX11_search 71 = .ok (.getfield 118, 3) := by decide +kernel
theorem dX11_search_74 : decode cX11_search 74 = .ok (.iaload, 1) := by decide +kernel
theorem dX11_search_75 : decode cX11_search 75 = .ok (.iconst 1, 1) := by decide +kernel
theorem dX11_search_76 : decode cX11_search 76 = .ok (.iadd, 1) := by decide +kernel
theorem dX11_search_77 : decode cX11_search 77 = .ok (.istore_n 2, 1) := by decide +kernel
theorem dX11_search_78 : decode cX11_search 78 = .ok (.goto (-66), 3) := by decide +kernel
theorem dX11_search_81 : decode cX11_search 81 = .ok (.iconst 1, 1) := by decide +kernel
theorem dX11_search_82 : decode cX11_search 82 = .ok (.ireturn, 1) := by decide +kernel
set_option maxRecDepth 20000 in
theorem ggX11_smallestFree_X11_isIn : GoodIn wsX11_smallestFree wsX11_isIn := goodIn_r _ [8] rfl (by decide +kernel)
set_option maxRecDepth 20000 in
theorem gX11_smallestFree_X11_isIn : GoodIn wsX11_smallestFree (va_wsS RX11 85 yX11_isIn wsX11_isIn) := goodIn_app (goodIn_r _ [5, 6, 7] rfl (by decide +kernel)) ggX11_smallestFree_X11_isIn
set_option maxRecDepth 20000 in
theorem ggX11_smallestFree_X11_isWord : GoodIn wsX11_smallestFree wsX11_isWord := goodIn_r _ [11, 5, 6, 7, 8] rfl (by decide +kernel)
set_option maxRecDepth 20000 in
theorem gX11_smallestFree_X11_isWord : GoodIn wsX11_smallestFree (va_wsS RX11 115 yX11_isWord wsX11_isWord) := goodIn_app (goodIn_r _ [9, 10, 7] rfl (by decide +kernel)) ggX11_smallestFree_X11_isWord
set_option maxRecDepth 20000 in
theorem ggX11_smallestFree_X11_search : GoodIn wsX11_smallestFree wsX11_search := goodIn_r _ [15, 16, 4, 3, 17, 18, 19, 7, 20, 21, 22, 23, 24, 25, 26, 27, 28, 29, 30, 31, 32, 33, 34, 35, 36, 37, 38, 39, 40, 41, 42, 43, 44, 45, 46, 47, 48, 49, 50, 51, 52, 53, 54, 55, 56, 57, 58, 59, 60, 61, 62, 63, 64, 65, 66, 67, 68, 69, 70, 71, 72, 73, 74, 75, 76, 77, 78, 79, 80, 81, 82, 83, 84, 85, 86, 87, 88, 89, 90, 91, 92, 93, 94, 95, 96] rfl (by decide +kernel)
set_option maxRecDepth 20000 in
theorem gX11_smallestFree_X11_search : GoodIn wsX11_smallestFree (wsV RX11 167 RX11 yX11_search wsX11_search) := goodIn_app (goodIn_r _ [12, 13, 14, 7] rfl (by decide +kernel)) ggX11_smallestFree_X11_search
theorem dX11_smallestFree_0 : decode cX11_smallestFree 0 = .ok (.iload_n 1, 1) := by decide +kernel
theorem dX11_smallestFree_1 : decode cX11_smallestFree 1 = .ok (.iconst 1, 1) := by decide +kernel
theorem dX11_smallestFree_2 : decode cX11_smallestFree 2 = .ok (.bipush 30, 2) := by decide +kernel
theorem dX11_smallestFree_4 : decode cX11_smallestFree 4 = .ok (.invokestatic 85, 3) := by decide +kernel
theorem dX11_smallestFree_7 : decode cX11_smallestFree 7 = .ok (.ifCond .eq 10, 3) := by decide +kernel
theorem dX11_smallestFree_10 : decode cX11_smallestFree 10 = .ok (.iload_n 2, 1) := by decide +kernel
theorem dX11_smallestFree_11 : decode cX11_smallestFree 11 = .ok (.invokestatic 115, 3) := by decide +kernel
theorem dX11_smallestFree_14 : decode cX11_smallestFree 14 = .ok (.ifCond .ne 5, 3) := by decide +kernel
theorem dX11_smallestFree_17 : decode cX11_smallestFree 17 = .ok (.iconst (-1), 1) := by decide +kernel
theorem dX11_smallestFree_18 : decode cX11_smallestFree 18 = .ok (.ireturn, 1) := by decide +kernel
theorem dX11_smallestFree_19 : decode cX11_smallestFree 19 = .ok (.aload_n 0, 1) := by decide +kernel
theorem dX11_smallestFree_20 : decode cX11_smallestFree 20 = .ok (.iload_n 1, 1) := by decide +kernel
theorem dX11_smallestFree_21 : decode cX11_smallestFree 21 = .ok (.invokevirtual 167, 3) := by decide +kernel
theorem dX11_smallestFree_24 : decode cX11_smallestFree 24 = .ok (.istore_n 3, 1) := by decide +kernel
theorem dX11_smallestFree_25 : decode cX11_smallestFree 25 = .ok (.iload_n 3, 1) := by decide +kernel
theorem dX11_smallestFree_26 : decode cX11_smallestFree 26 = .ok (.iconst 1, 1) := by decide +kernel
theorem dX11_smallestFree_27 : decode cX11_smallestFree 27 = .ok (.if_icmp .eq 5, 3) := by decide +kernel
theorem dX11_smallestFree_30 : decode cX11_smallestFree 30 = .ok (.iload_n 3, 1) := by decide +kernel
theorem dX11_smallestFree_31 : decode cX11_smallestFree 31 = .ok (.ireturn, 1) := by decide +kernel
theorem dX11_smallestFree_32 : decode cX11_smallestFree 32 = .ok (.aload_n 0, 1) := by decide +kernel
theorem dX11_smallestFree_33 : decode cX11_smallestFree 33 = .ok (.getfield 26, 3) := by decide +kernel
theorem dX11_smallestFree_36 : decode cX11_smallestFree 36 = .ok (.iload_n 2, 1) := by decide +kernel
theorem dX11_smallestFree_37 : decode cX11_smallestFree 37 = .ok (.iload_n 1, 1) := by decide +kernel
theorem dX11_smallestFree_38 : decode cX11_smallestFree 38 = .ok (.iastore, 1) := by decide +kernel
theorem dX11_smallestFree_39 : decode cX11_smallestFree 39 = .ok (.iconst 0, 1) := by decide +kernel
theorem dX11_smallestFree_40 : decode cX11_smallestFree 40 = .ok (.istore 4, 2) := by decide +kernel
theorem dX11_smallestFree_42 : decode cX11_smallestFree 42 = .ok (.iload 4, 2) := by decide +kernel
theorem dX11_smallestFree_44 : decode cX11_smallestFree 44 = .ok (.iload_n 1, 1) := by decide +kernel
theorem dX11_smallestFree_45 : decode cX11_smallestFree 45 = .ok (.if_icmp .ge 28, 3) := by decide +kernel
theorem dX11_smallestFree_48 : decode cX11_smallestFree 48 = .ok (.aload_n 0, 1) := by decide +kernel
theorem dX11_smallestFree_49 : decode cX11_smallestFree 49 = .ok (.getfield 23, 3) := by decide +kernel
theorem dX11_smallestFree_52 : decode cX11_smallestFree 52 = .ok (.bipush 40, 2) := by decide +kernel
theorem dX11_smallestFree_54 : decode cX11_smallestFree 54 = .ok (.iload_n 2, 1) := by decide +kernel
theorem dX11_smallestFree_55 : decode cX11_smallestFree 55 = .ok (.imul, 1) := by decide +kernel
theorem dX11_smallestFree_56 : decode cX11_smallestFree 56 = .ok (.iload 4, 2) := by decide +kernel
theorem dX11_smallestFree_58 : decode cX11_smallestFree 58 = .ok (.iadd, 1) := by decide +kernel
theorem dX11_smallestFree_59 : decode cX11_smallestFree 59 = .ok (.aload_n 0, 1) := by decide +kernel
theorem dX11_smallestFree_60 : decode cX11_smallestFree 60 = .ok (.getfield 38, 3) := by decide +kernel
theorem dX11_smallestFree_63 : decode cX11_smallestFree 63 = .ok (.iload 4, 2) := by decide +kernel
theorem dX11_smallestFree_65 : decode cX11_smallestFree 65 = .ok (.iaload, 1) := by decide +kernel
theorem dX11_smallestFree_66 : decode cX11_smallestFree 66 = .ok (.iastore, 1) := by decide +kernel
theorem dX11_smallestFree_67 : decode cX11_smallestFree 67 = .ok (.iinc 4 1, 3) := by decide +kernel
theorem dX11_smallestFree_70 : decode cX11_smallestFree 70 = .ok (.goto (-28), 3) := by decide +kernel
theorem dX11_smallestFree_73 : decode cX11_smallestFree 73 = .ok (.aload_n 0, 1) := by decide +kernel
theorem dX11_smallestFree_74 : decode cX11_smallestFree 74 = .ok (.getfield 161, 3) := by decide +kernel
theorem dX11_smallestFree_77 : decode cX11_smallestFree 77 = .ok (.ireturn, 1) := by decide +kernel
theorem dX11_isNormal_0 : decode cX11_isNormal 0 = .ok (.iconst 0, 1) := by decide +kernel
theorem dX11_isNormal_1 : decode cX11_isNormal 1 = .ok (.istore_n 1, 1) := by decide +kernel
theorem dX11_isNormal_2 : decode cX11_isNormal 2 = .ok (.iconst 0, 1) := by decide +kernel
theorem dX11_isNormal_3 : decode cX11_isNormal 3 = .ok (.istore_n 2, 1) := by decide +kernel
theorem dX11_isNormal_4 : decode cX11_isNormal 4 = .ok (.iload_n 2, 1) := by decide +kernel
theorem dX11_isNormal_5 : decode cX11_isNormal 5 = .ok (.aload_n 0, 1) := by decide +kernel
theorem dX11_isNormal_6 : decode cX11_isNormal 6 = .ok (.getfield 118, 3) := by decide +kernel
theorem dX11_isNormal_9 : decode cX11_isNormal 9 = .ok (.if_icmp .ge 34, 3) := by decide +kernel
theorem dX11_isNormal_12 : decode cX11_isNormal 12 = .ok (.aload_n 0, 1) := by decide +kernel
theorem dX11_isNormal_13 : decode cX11_isNormal 13 = .ok (.getfield 38, 3) := by decide +kernel
theorem dX11_isNormal_16 : decode cX11_isNormal 16 = .ok (.iload_n 2, 1) := by decide +kernel
theorem dX11_isNormal_17 : decode cX11_isNormal 17 = .ok (.iaload, 1) := by decide +kernel
theorem dX11_isNormal_18 : decode cX11_isNormal 18 = .ok (.iload_n 1, 1) := by decide +kernel
theorem dX11_isNormal_19 : decode cX11_isNormal 19 = .ok (.if_icmp .le 5, 3) := by decide +kernel
theorem dX11_isNormal_22 : decode cX11_isNormal 22 = .ok (.iconst 0, 1) := by decide +kernel
theorem dX11_isNormal_23 : decode cX11_isNormal 23 = .ok (.ireturn, 1) := by decide +kernel
theorem dX11_isNormal_24 : decode cX11_isNormal 24 = .ok (.iload_n 1, 1) := by decide +kernel
theorem dX11_isNormal_25 : decode cX11_isNormal 25 = .ok (.aload_n 0, 1) := by decide +kernel
theorem dX11_isNormal_26 : decode cX11_isNormal 26 = .ok (.getfield 38, 3) := by decide +kernel
theorem dX11_isNormal_29 : decode cX11_isNormal 29 = .ok (.iload_n 2, 1) := by decide +kernel
theorem dX11_isNormal_30 : decode cX11_isNormal 30 = .ok (.iaload, 1) := by decide +kernel
theorem dX11_isNormal_31 : decode cX11_isNormal 31 = .ok (.iconst 1, 1) := by decide +kernel
theorem dX11_isNormal_32 : decode cX11_isNormal 32 = .ok (.iadd, 1) := by decide +kernel
theorem dX11_isNormal_33 : decode cX11_isNormal 33 = .ok (.invokestatic 99, 3) := by decide +kernel
theorem dX11_isNormal_36 : decode cX11_isNormal 36 = .ok (.istore_n 1, 1) := by decide +kernel
theorem dX11_isNormal_37 : decode cX11_isNormal 37 = .ok (.iinc 2 1, 3) := by decide +kernel
theorem dX11_isNormal_40 : decode cX11_isNormal 40 = .ok (.goto (-36), 3) := by decide +kernel
theorem dX11_isNormal_43 : decode cX11_isNormal 43 = .ok (.iconst 1, 1) := by decide +kernel
theorem dX11_isNormal_44 : decode cX11_isNormal 44 = .ok (.ireturn, 1) := by decide +kernel
set_option maxRecDepth 20000 in
theorem ggX11_countAll_X11_isNormal : GoodIn wsX11_countAll wsX11_isNormal := goodIn_r _ [9, 1, 4, 10, 11, 12, 13, 58, 59, 60, 61, 62, 63, 64, 65, 66, 67, 68, 69, 70, 71, 72, 73, 74, 75, 76, 77, 78, 79, 80, 81, 82, 83, 84, 85, 86, 87, 88, 89, 90, 91, 92, 93] rfl (by decide +kernel)
set_option maxRecDepth 20000 in
theorem gX11_countAll_X11_isNormal : GoodIn wsX11_countAll (wsV RX11 170 RX11 yX11_isNormal wsX11_isNormal) := goodIn_app (goodIn_r _ [5, 6, 7, 8] rfl (by decide +kernel)) ggX11_countAll_X11_isNormal
set_option maxRecDepth 20000 in
theorem ggX11_countAll_X11_goOn : GoodIn wsX11_countAll wsX11_goOn := goodIn_r _ [17, 18, 2, 4, 1, 19, 20, 21, 8, 22, 23, 24, 25, 26, 27, 28, 29, 30, 31, 32, 33, 34, 35, 36, 37, 38, 39, 40, 41, 42, 43, 44, 45, 46, 47, 48, 49, 50, 51, 52, 53, 54, 55, 56, 57, 58, 59, 60, 61, 62, 63, 64, 65, 66, 67, 68, 69, 70, 71, 72, 73, 74, 75, 76, 77, 78, 79, 80, 81, 82, 83, 84, 85, 86, 87, 88, 89, 90, 91, 92, 93] rfl (by decide +kernel)
set_option maxRecDepth 20000 in
theorem gX11_countAll_X11_goOn : GoodIn wsX11_countAll (wsV RX11 164 RX11 yX11_goOn wsX11_goOn) := goodIn_app (goodIn_r _ [14, 15, 16, 8] rfl (by decide +kernel)) ggX11_countAll_X11_goOn
theorem dX11_countAll_0 : decode cX11_countAll 0 = .ok (.iconst 0, 1) := by decide +kernel
theorem dX11_countAll_1 : decode cX11_countAll 1 = .ok (.istore_n 3, 1) := by decide +kernel
theorem dX11_countAll_2 : decode cX11_countAll 2 = .ok (.aload_n 0, 1) := by decide +kernel
theorem dX11_countAll_3 : decode cX11_countAll 3 = .ok (.iconst 0, 1) := by decide +kernel
theorem dX11_countAll_4 : decode cX11_countAll 4 = .ok (.putfield 118, 3) := by decide +kernel
theorem dX11_countAll_7 : decode cX11_countAll 7 = .ok (.aload_n 0, 1) := by decide +kernel
theorem dX11_countAll_8 : decode cX11_countAll 8 = .ok (.iconst 0, 1) := by decide +kernel
theorem dX11_countAll_9 : decode cX11_countAll 9 = .ok (.putfield 161, 3) := by decide +kernel
theorem dX11_countAll_12 : decode cX11_countAll 12 = .ok (.iconst 0, 1) := by decide +kernel
theorem dX11_countAll_13 : decode cX11_countAll 13 = .ok (.istore 4, 2) := by decide +kernel
theorem dX11_countAll_15 : decode cX11_countAll 15 = .ok (.iconst 1, 1) := by decide +kernel
theorem dX11_countAll_16 : decode cX11_countAll 16 = .ok (.istore 5, 2) := by decide +kernel
theorem dX11_countAll_18 : decode cX11_countAll 18 = .ok (.iload 5, 2) := by decide +kernel
theorem dX11_countAll_20 : decode cX11_countAll 20 = .ok (.ifCond .eq 121, 3) := by decide +kernel
theorem dX11_countAll_23 : decode cX11_countAll 23 = .ok (.aload_n 0, 1) := by decide +kernel
theorem dX11_countAll_24 : decode cX11_countAll 24 = .ok (.getfield 118, 3) := by decide +kernel
theorem dX11_countAll_27 : decode cX11_countAll 27 = .ok (.iload_n 1, 1) := by decide +kernel
theorem dX11_countAll_28 : decode cX11_countAll 28 = .ok (.if_icmp .ne 7, 3) := by decide +kernel
theorem dX11_countAll_31 : decode cX11_countAll 31 = .ok (.iconst 1, 1) := by decide +kernel
theorem dX11_countAll_32 : decode cX11_countAll 32 = .ok (.goto 4, 3) := by decide +kernel
theorem dX11_countAll_35 : decode cX11_countAll 35 = .ok (.iconst 0, 1) := by decide +kernel
theorem dX11_countAll_36 : decode cX11_countAll 36 = .ok (.istore 6, 2) := by decide +kernel
theorem dX11_countAll_38 : decode cX11_countAll 38 = .ok (.iload_n 3, 1) := by decide +kernel
theorem dX11_countAll_39 : decode cX11_countAll 39 = .ok (.iload 6, 2) := by decide +kernel
theorem dX11_countAll_41 : decode cX11_countAll 41 = .ok (.ifCond .eq 18, 3) := by decide +kernel
theorem dX11_countAll_44 : decode cX11_countAll 44 = .ok (.iload_n 2, 1) := by decide +kernel
theorem dX11_countAll_45 : decode cX11_countAll 45 = .ok (.ifCond .eq 10, 3) := by decide +kernel
theorem dX11_countAll_48 : decode cX11_countAll 48 = .ok (.aload_n 0, 1) := by decide +kernel
theorem dX11_countAll_49 : decode cX11_countAll 49 = .ok (.invokevirtual 170, 3) := by decide +kernel
theorem dX11_countAll_52 : decode cX11_countAll 52 = .ok (.ifCond .eq 7, 3) := by decide +kernel
theorem dX11_countAll_55 : decode cX11_countAll 55 = .ok (.iconst 1, 1) := by decide +kernel
theorem dX11_countAll_56 : decode cX11_countAll 56 = .ok (.goto 4, 3) := by decide +kernel
theorem dX11_countAll_59 : decode cX11_countAll 59 = .ok (.iconst 0, 1) := by decide +kernel
theorem dX11_countAll_60 : decode cX11_countAll 60 = .ok (.iadd, 1) := by decide +kernel
theorem dX11_countAll_61 : decode cX11_countAll 61 = .ok (.istore_n 3, 1) := by decide +kernel
theorem dX11_countAll_62 : decode cX11_countAll 62 = .ok (.iload 6, 2) := by decide +kernel
theorem dX11_countAll_64 : decode cX11_countAll 64 = .ok (.ifCond .eq 8, 3) := by decide +kernel
theorem dX11_countAll_67 : decode cX11_countAll 67 = .ok (.bipush (-2), 2) := by decide +kernel
theorem dX11_countAll_69 : decode cX11_countAll 69 = .ok (.goto 11, 3) := by decide +kernel
theorem dX11_countAll_72 : decode cX11_countAll 72 = .ok (.aload_n 0, 1) := by decide +kernel
theorem dX11_countAll_73 : decode cX11_countAll 73 = .ok (.iload 4, 2) := by decide +kernel
theorem dX11_countAll_75 : decode cX11_countAll 75 = .ok (.ldc 176, 2) := by decide +kernel
theorem dX11_countAll_77 : decode cX11_countAll 77 = .ok (.invokevirtual 164, 3) := by decide +kernel
theorem dX11_countAll_80 : decode cX11_countAll 80 = .ok (.istore 7, 2) := by decide +kernel
theorem dX11_countAll_82 : decode cX11_countAll 82 = .ok (.iconst 0, 1) := by decide +kernel
theorem dX11_countAll_83 : decode cX11_countAll 83 = .ok (.istore 4, 2) := by decide +kernel
theorem dX11_countAll_85 : decode cX11_countAll 85 = .ok (.iload 7, 2) := by decide +kernel
theorem dX11_countAll_87 : decode cX11_countAll 87 = .ok (.bipush (-2), 2) := by decide +kernel
theorem dX11_countAll_89 : decode cX11_countAll 89 = .ok (.if_icmp .ne 49, 3) := by decide +kernel
theorem dX11_countAll_92 : decode cX11_countAll 92 = .ok (.aload_n 0, 1) := by decide +kernel
theorem dX11_countAll_93 : decode cX11_countAll 93 = .ok (.getfield 118, 3) := by decide +kernel
theorem dX11_countAll_96 : decode cX11_countAll 96 = .ok (.ifCond .le 7, 3) := by decide +kernel
theorem dX11_countAll_99 : decode cX11_countAll 99 = .ok (.iconst 1, 1) := by decide +kernel
theorem dX11_countAll_100 : decode cX11_countAll 100 = .ok (.goto 4, 3) := by decide +kernel
theorem dX11_countAll_103 : decode cX11_countAll 103 = .ok (.iconst 0, 1) := by decide +kernel
theorem dX11_countAll_104 : decode cX11_countAll 104 = .ok (.istore 5, 2) := by decide +kernel
theorem dX11_countAll_106 : decode cX11_countAll 106 = .ok (.aload_n 0, 1) := by decide +kernel
theorem dX11_countAll_107 : decode cX11_countAll 107 = .ok (.dup, 1) := by decide +kernel
theorem dX11_countAll_108 : decode cX11_countAll 108 = .ok (.getfield 118, 3) := by decide +kernel
theorem dX11_countAll_111 : decode cX11_countAll 111 = .ok (.iload 5, 2) := by decide +kernel
theorem dX11_countAll_113 : decode cX11_countAll 113 = .ok (.ifCond .eq 7, 3) := by decide +kernel
theorem dX11_countAll_116 : decode cX11_countAll 116 = .ok (.iconst 1, 1) := by decide +kernel
theorem dX11_countAll_117 : decode cX11_countAll 117 = .ok (.goto 4, 3) := by decide +kernel
theorem dX11_countAll_120 : decode cX11_countAll 120 = .ok (.iconst 0, 1) := by decide +kernel
theorem dX11_countAll_121 : decode cX11_countAll 121 = .ok (.isub, 1) := by decide +kernel
theorem dX11_countAll_122 : decode cX11_countAll 122 = .ok (.putfield 118, 3) := by decide +kernel
theorem dX11_countAll_125 : decode cX11_countAll 125 = .ok (.aload_n 0, 1) := by decide +kernel
theorem dX11_countAll_126 : decode cX11_countAll 126 = .ok (.getfield 38, 3) := by decide +kernel
theorem dX11_countAll_129 : decode cX11_countAll 129 = .ok (.aload_n 0, 1) := by decide +kernel
theorem dX11_countAll_130 : decode cX11_countAll 130 = .ok (.getfield 118, 3) := by decide +kernel
theorem dX11_countAll_133 : decode cX11_countAll 133 = .ok (.iaload, 1) := by decide +kernel
theorem dX11_countAll_134 : decode cX11_countAll 134 = .ok (.iconst 1, 1) := by decide +kernel
theorem dX11_countAll_135 : decode cX11_countAll 135 = .ok (.iadd, 1) := by decide +kernel
theorem dX11_countAll_136 : decode cX11_countAll 136 = .ok (.istore 4, 2) := by decide +kernel
theorem dX11_countAll_138 : decode cX11_countAll 138 = .ok (.goto (-120), 3) := by decide +kernel
theorem dX11_countAll_141 : decode cX11_countAll 141 = .ok (.iload_n 3, 1) := by decide +kernel
theorem dX11_countAll_142 : decode cX11_countAll 142 = .ok (.ireturn, 1) := by decide +kernel
set_option maxRecDepth 20000 in
theorem ggX11_countFree_X11_isIn : GoodIn wsX11_countFree wsX11_isIn := goodIn_r _ [4] rfl (by decide +kernel)
set_option maxRecDepth 20000 in
theorem gX11_countFree_X11_isIn : GoodIn wsX11_countFree (va_wsS RX11 85 yX11_isIn wsX11_isIn) := goodIn_app (goodIn_r _ [1, 2, 3] rfl (by decide +kernel)) ggX11_countFree_X11_isIn
set_option maxRecDepth 20000 in
theorem ggX11_countFree_X11_countAll : GoodIn wsX11_countFree wsX11_countAll := goodIn_r _ [8, 9, 10, 11, 12, 13, 14, 15, 3, 16, 17, 18, 19, 20, 21, 22, 23, 24, 25, 26, 27, 28, 29, 30, 31, 32, 33, 34, 35, 36, 37, 38, 39, 40, 41, 42, 43, 44, 45, 46, 47, 48, 49, 50, 51, 52, 53, 54, 55, 56, 57, 58, 59, 60, 61, 62, 63, 64, 65, 66, 67, 68, 69, 70, 71, 72, 73, 74, 75, 76, 77, 78, 79, 80, 81, 82, 83, 84, 85, 86, 87, 88, 89, 90, 91, 92, 93, 94, 95, 96, 97, 98, 99, 100] rfl (by decide +kernel)
set_option maxRecDepth 20000 in
theorem gX11_countFree_X11_countAll : GoodIn wsX11_countFree (wsV RX11 177 RX11 yX11_countAll wsX11_countAll) := goodIn_app (goodIn_r _ [5, 6, 7, 3] rfl (by decide +kernel)) ggX11_countFree_X11_countAll
theorem dX11_countFree_0 : decode cX11_countFree 0 = .ok (.iload_n 1, 1) := by decide +kernel
theorem dX11_countFree_1 : decode cX11_countFree 1 = .ok (.iconst 0, 1) := by decide +kernel
theorem dX11_countFree_2 : decode cX11_countFree 2 = .ok (.bipush 8, 2) := by decide +kernel
theorem dX11_countFree_4 : decode cX11_countFree 4 = .ok (.invokestatic 85, 3) := by decide +kernel
theorem dX11_countFree_7 : decode cX11_countFree 7 = .ok (.ifCond .eq 12, 3) := by decide +kernel
theorem dX11_countFree_10 : decode cX11_countFree 10 = .ok (.aload_n 0, 1) := by decide +kernel
theorem dX11_countFree_11 : decode cX11_countFree 11 = .ok (.iload_n 1, 1) := by decide +kernel
theorem dX11_countFree_12 : decode cX11_countFree 12 = .ok (.iconst 0, 1) := by decide +kernel
theorem dX11_countFree_13 : decode cX11_countFree 13 = .ok (.invokevirtual 177, 3) := by decide +kernel
theorem dX11_countFree_16 : decode cX11_countFree 16 = .ok (.goto 4, 3) := by decide +kernel
theorem dX11_countFree_19 : decode cX11_countFree 19 = .ok (.iconst (-1), 1) := by decide +kernel
theorem dX11_countFree_20 : decode cX11_countFree 20 = .ok (.ireturn, 1) := by decide +kernel
set_option maxRecDepth 20000 in
theorem ggX11_countNormal_X11_isIn : GoodIn wsX11_countNormal wsX11_isIn := goodIn_r _ [4] rfl (by decide +kernel)
set_option maxRecDepth 20000 in
theorem gX11_countNormal_X11_isIn : GoodIn wsX11_countNormal (va_wsS RX11 85 yX11_isIn wsX11_isIn) := goodIn_app (goodIn_r _ [1, 2, 3] rfl (by decide +kernel)) ggX11_countNormal_X11_isIn
set_option maxRecDepth 20000 in
theorem ggX11_countNormal_X11_countAll : GoodIn wsX11_countNormal wsX11_countAll := goodIn_r _ [8, 9, 10, 11, 12, 13, 14, 15, 3, 16, 17, 18, 19, 20, 21, 22, 23, 24, 25, 26, 27, 28, 29, 30, 31, 32, 33, 34, 35, 36, 37, 38, 39, 40, 41, 42, 43, 44, 45, 46, 47, 48, 49, 50, 51, 52, 53, 54, 55, 56, 57, 58, 59, 60, 61, 62, 63, 64, 65, 66, 67, 68, 69, 70, 71, 72, 73, 74, 75, 76, 77, 78, 79, 80, 81, 82, 83, 84, 85, 86, 87, 88, 89, 90, 91, 92, 93, 94, 95, 96, 97, 98, 99, 100] rfl (by decide +kernel)
set_option maxRecDepth 20000 in
theorem gX11_countNormal_X11_countAll : GoodIn wsX11_countNormal (wsV RX11 177 RX11 yX11_countAll wsX11_countAll) := goodIn_app (goodIn_r _ [5, 6, 7, 3] rfl (by decide +kernel)) ggX11_countNormal_X11_countAll
theorem dX11_countNormal_0 : decode cX11_countNormal 0 = .ok (.iload_n 1, 1) := by decide +kernel
theorem dX11_countNormal_1 : decode cX11_countNormal 1 = .ok (.iconst 0, 1) := by decide +kernel
theorem dX11_countNormal_2 : decode cX11_countNormal 2 = .ok (.bipush 8, 2) := by decide +kernel
theorem dX11_countNormal_4 : decode cX11_countNormal 4 = .ok (.invokestatic 85, 3) := by decide +kernel
theorem dX11_countNormal_7 : decode cX11_countNormal 7 = .ok (.ifCond .eq 12, 3) := by decide +kernel
theorem dX11_countNormal_10 : decode cX11_countNormal 10 = .ok (.aload_n 0, 1) := by decide +kernel
theorem dX11_countNormal_11 : decode cX11_countNormal 11 = .ok (.iload_n 1, 1) := by decide +kernel
theorem dX11_countNormal_12 : decode cX11_countNormal 12 = .ok (.iconst 1, 1) := by decide +kernel
theorem dX11_countNormal_13 : decode cX11_countNormal 13 = .ok (.invokevirtual 177, 3) := by decide +kernel
theorem dX11_countNormal_16 : decode cX11_countNormal 16 = .ok (.goto 4, 3) := by decide +kernel
theorem dX11_countNormal_19 : decode cX11_countNormal 19 = .ok (.iconst (-1), 1) := by decide +kernel
theorem dX11_countNormal_20 : decode cX11_countNormal 20 = .ok (.ireturn, 1) := by decide +kernel
set_option maxRecDepth 20000 in
theorem ggX11_longestFree_X11_goOn : GoodIn wsX11_longestFree wsX11_goOn := goodIn_r _ [12, 13, 2, 7, 1, 14, 15, 16, 11, 17, 18, 19, 20, 21, 22, 23, 24, 25, 26, 27, 28, 29, 30, 31, 32, 33, 34, 35, 36, 37, 38, 39, 40, 41, 42, 43, 44, 45, 46, 47, 48, 49, 50, 51, 52, 53, 54, 55, 56, 57, 58, 59, 60, 61, 62, 63, 64, 65, 66, 67, 68, 69, 70, 71, 72, 73, 74, 75, 76, 77, 78, 79, 80, 81, 82, 83, 84, 85, 86, 87, 88] rfl (by decide +kernel)
set_option maxRecDepth 20000 in
theorem gX11_longestFree_X11_goOn : GoodIn wsX11_longestFree (wsV RX11 164 RX11 yX11_goOn wsX11_goOn) := goodIn_app (goodIn_r _ [8, 9, 10, 11] rfl (by decide +kernel)) ggX11_longestFree_X11_goOn
theorem dX11_longestFree_0 : decode cX11_longestFree 0 = .ok (.aload_n 0, 1) := by decide +kernel
theorem dX11_longestFree_1 : decode cX11_longestFree 1 = .ok (.iconst 0, 1) := by decide +kernel
theorem dX11_longestFree_2 : decode cX11_longestFree 2 = .ok (.putfield 118, 3) := by decide +kernel
theorem dX11_longestFree_5 : decode cX11_longestFree 5 = .ok (.aload_n 0, 1) := by decide +kernel
theorem dX11_longestFree_6 : decode cX11_longestFree 6 = .ok (.iconst 0, 1) := by decide +kernel
theorem dX11_longestFree_7 : decode cX11_longestFree 7 = .ok (.putfield 161, 3) := by decide +kernel
theorem dX11_longestFree_10 : decode cX11_longestFree 10 = .ok (.iconst 0, 1) := by decide +kernel
theorem dX11_longestFree_11 : decode cX11_longestFree 11 = .ok (.istore_n 1, 1) := by decide +kernel
theorem dX11_longestFree_12 : decode cX11_longestFree 12 = .ok (.iconst 0, 1) := by decide +kernel
theorem dX11_longestFree_13 : decode cX11_longestFree 13 = .ok (.istore_n 2, 1) := by decide +kernel
theorem dX11_longestFree_14 : decode cX11_longestFree 14 = .ok (.aload_n 0, 1) := by decide +kernel
theorem dX11_longestFree_15 : decode cX11_longestFree 15 = .ok (.iload_n 2, 1) := by decide +kernel
theorem dX11_longestFree_16 : decode cX11_longestFree 16 = .ok (.sipush 20000, 3) := by decide +kernel
theorem dX11_longestFree_19 : decode cX11_longestFree 19 = .ok (.invokevirtual 164, 3) := by decide +kernel
theorem dX11_longestFree_22 : decode cX11_longestFree 22 = .ok (.istore_n 3, 1) := by decide +kernel
theorem dX11_longestFree_23 : decode cX11_longestFree 23 = .ok (.iload_n 3, 1) := by decide +kernel
theorem dX11_longestFree_24 : decode cX11_longestFree 24 = .ok (.bipush (-4), 2) := by decide +kernel
theorem dX11_longestFree_26 : decode cX11_longestFree 26 = .ok (.if_icmp .ne 6, 3) := by decide +kernel
theorem dX11_longestFree_29 : decode cX11_longestFree 29 = .ok (.bipush (-4), 2) := by decide +kernel
theorem dX11_longestFree_31 : decode cX11_longestFree 31 = .ok (.ireturn, 1) := by decide +kernel
theorem dX11_longestFree_32 : decode cX11_longestFree 32 = .ok (.iconst 0, 1) := by decide +kernel
theorem dX11_longestFree_33 : decode cX11_longestFree 33 = .ok (.istore_n 2, 1) := by decide +kernel
theorem dX11_longestFree_34 : decode cX11_longestFree 34 = .ok (.iload_n 1, 1) := by decide +kernel
theorem dX11_longestFree_35 : decode cX11_longestFree 35 = .ok (.aload_n 0, 1) := by decide +kernel
theorem dX11_longestFree_36 : decode cX11_longestFree 36 = .ok (.getfield 118, 3) := by decide +kernel
theorem dX11_longestFree_39 : decode cX11_longestFree 39 = .ok (.invokestatic 99, 3) := by decide +kernel
theorem dX11_longestFree_42 : decode cX11_longestFree 42 = .ok (.istore_n 1, 1) := by decide +kernel
theorem dX11_longestFree_43 : decode cX11_longestFree 43 = .ok (.iload_n 1, 1) := by decide +kernel
theorem dX11_longestFree_44 : decode cX11_longestFree 44 = .ok (.bipush 12, 2) := by decide +kernel
theorem dX11_longestFree_46 : decode cX11_longestFree 46 = .ok (.if_icmp .ne 6, 3) := by decide +kernel
theorem dX11_longestFree_49 : decode cX11_longestFree 49 = .ok (.bipush (-2), 2) := by decide +kernel
theorem dX11_longestFree_51 : decode cX11_longestFree 51 = .ok (.ireturn, 1) := by decide +kernel
theorem dX11_longestFree_52 : decode cX11_longestFree 52 = .ok (.iload_n 3, 1) := by decide +kernel
theorem dX11_longestFree_53 : decode cX11_longestFree 53 = .ok (.bipush (-2), 2) := by decide +kernel
theorem dX11_longestFree_55 : decode cX11_longestFree 55 = .ok (.if_icmp .ne 34, 3) := by decide +kernel
theorem dX11_longestFree_58 : decode cX11_longestFree 58 = .ok (.aload_n 0, 1) := by decide +kernel
theorem dX11_longestFree_59 : decode cX11_longestFree 59 = .ok (.getfield 118, 3) := by decide +kernel
theorem dX11_longestFree_62 : decode cX11_longestFree 62 = .ok (.ifCond .ne 5, 3) := by decide +kernel
theorem dX11_longestFree_65 : decode cX11_longestFree 65 = .ok (.iload_n 1, 1) := by decide +kernel
theorem dX11_longestFree_66 : decode cX11_longestFree 66 = .ok (.ireturn, 1) := by decide +kernel
theorem dX11_longestFree_67 : decode cX11_longestFree 67 = .ok (.aload_n 0, 1) := by decide +kernel
theorem dX11_longestFree_68 : decode cX11_longestFree 68 = .ok (.dup, 1) := by decide +kernel
theorem dX11_longestFree_69 : decode cX11_longestFree 69 = .ok (.getfield 118, 3) := by decide +kernel
theorem dX11_longestFree_72 : decode cX11_longestFree 72 = .ok (.iconst 1, 1) := by decide +kernel
theorem dX11_longestFree_73 : decode cX11_longestFree 73 = .ok (.isub, 1) := by decide +kernel
theorem dX11_longestFree_74 : decode cX11_longestFree 74 = .ok (.putfield 118, 3) := by decide +kernel
theorem dX11_longestFree_77 : decode cX11_longestFree 77 = .ok (.aload_n 0, 1) := by decide +kernel
theorem dX11_longestFree_78 : decode cX11_longestFree 78 = .ok (.getfield 38, 3) := by decide +kernel
theorem dX11_longestFree_81 : decode cX11_longestFree 81 = .ok (.aload_n 0, 1) := by decide +kernel
theorem dX11_longestFree_82 : decode cX11_longestFree 82 = .ok (.getfield 118, 3) := by decide +kernel
theorem dX11_longestFree_85 : decode cX11_longestFree 85 = .ok (.iaload, 1) := by decide +kernel
theorem dX11_longestFree_86 : decode cX11_longestFree 86 = .ok (.iconst 1, 1) := by decide +kernel
theorem dX11_longestFree_87 : decode cX11_longestFree 87 = .ok (.iadd, 1) := by decide +kernel
theorem dX11_longestFree_88 : decode cX11_longestFree 88 = .ok (.istore_n 2, 1) := by decide +kernel
theorem dX11_longestFree_89 : decode cX11_longestFree 89 = .ok (.goto (-75), 3) := by decide +kernel
set_option maxRecDepth 20000 in
theorem ggX11_letterAt_X11_sign : GoodIn wsX11_letterAt wsX11_sign := goodIn_r _ [5, 6, 7, 16, 17, 18, 19, 20, 21, 22, 23, 24, 25, 26, 27, 28, 29, 30, 31, 32, 33, 34, 35, 36, 37, 38, 39, 40, 41, 42, 43, 44, 45, 46, 47, 48, 49, 50, 51] rfl (by decide +kernel)
set_option maxRecDepth 20000 in
theorem gX11_letterAt_X11_sign : GoodIn wsX11_letterAt (wsV RX11 108 RX11 yX11_sign wsX11_sign) := goodIn_app (goodIn_r _ [1, 2, 3, 4] rfl (by decide +kernel)) ggX11_letterAt_X11_sign
set_option maxRecDepth 20000 in
theorem ggX11_letterAt_X11_isLetter : GoodIn wsX11_letterAt wsX11_isLetter := goodIn_r _ [11, 12, 13, 14, 4, 15, 16, 17, 18, 19, 20, 21, 22, 23, 24, 25, 26, 27, 28, 29, 30, 31, 32, 33, 34, 35, 36, 37, 38, 39, 40, 41, 42, 43, 44, 45, 46, 47, 48, 49, 50, 51] rfl (by decide +kernel)
set_option maxRecDepth 20000 in
theorem gX11_letterAt_X11_isLetter : GoodIn wsX11_letterAt (wsV RX11 111 RX11 yX11_isLetter wsX11_isLetter) := goodIn_app (goodIn_r _ [8, 9, 10, 4] rfl (by decide +kernel)) ggX11_letterAt_X11_isLetter
theorem dX11_letterAt_0 : decode cX11_letterAt 0 = .ok (.aload_n 0, 1) := by decide +kernel
theorem dX11_letterAt_1 : decode cX11_letterAt 1 = .ok (.iload_n 1, 1) := by decide +kernel
theorem dX11_letterAt_2 : decode cX11_letterAt 2 = .ok (.invokevirtual 108, 3) := by decide +kernel
theorem dX11_letterAt_5 : decode cX11_letterAt 5 = .ok (.bipush 97, 2) := by decide +kernel
theorem dX11_letterAt_7 : decode cX11_letterAt 7 = .ok (.isub, 1) := by decide +kernel
theorem dX11_letterAt_8 : decode cX11_letterAt 8 = .ok (.istore_n 2, 1) := by decide +kernel
theorem dX11_letterAt_9 : decode cX11_letterAt 9 = .ok (.aload_n 0, 1) := by decide +kernel
theorem dX11_letterAt_10 : decode cX11_letterAt 10 = .ok (.iload_n 2, 1) := by decide +kernel
theorem dX11_letterAt_11 : decode cX11_letterAt 11 = .ok (.invokevirtual 111, 3) := by decide +kernel
theorem dX11_letterAt_14 : decode cX11_letterAt 14 = .ok (.ifCond .eq 7, 3) := by decide +kernel
theorem dX11_letterAt_17 : decode cX11_letterAt 17 = .ok (.iload_n 2, 1) := by decide +kernel
theorem dX11_letterAt_18 : decode cX11_letterAt 18 = .ok (.goto 5, 3) := by decide +kernel
theorem dX11_letterAt_21 : decode cX11_letterAt 21 = .ok (.bipush (-2), 2) := by decide +kernel
theorem dX11_letterAt_23 : decode cX11_letterAt 23 = .ok (.ireturn, 1) := by decide +kernel
set_option maxRecDepth 20000 in
theorem ggX11_parseImage_X11_letterAt : GoodIn wsX11_parseImage wsX11_letterAt := goodIn_r _ [10, 11, 12, 13, 9, 14, 2, 5, 15, 16, 17, 18, 19, 20, 21, 22, 23, 24, 25, 26, 27, 28, 29, 30, 31, 32, 33, 34, 35, 36, 37, 38, 39, 40, 41, 42, 43, 44, 45, 46, 47, 48, 49, 50, 51, 52, 53, 54, 55, 56, 57, 58] rfl (by decide +kernel)
set_option maxRecDepth 20000 in
theorem gX11_parseImage_X11_letterAt : GoodIn wsX11_parseImage (wsV RX11 181 RX11 yX11_letterAt wsX11_letterAt) := goodIn_app (goodIn_r _ [6, 7, 8, 9] rfl (by decide +kernel)) ggX11_parseImage_X11_letterAt
set_option maxRecDepth 20000 in
theorem ggX11_parseImage_X11_sign : GoodIn wsX11_parseImage wsX11_sign := goodIn_r _ [14, 2, 5, 23, 24, 25, 26, 27, 28, 29, 30, 31, 32, 33, 34, 35, 36, 37, 38, 39, 40, 41, 42, 43, 44, 45, 46, 47, 48, 49, 50, 51, 52, 53, 54, 55, 56, 57, 58] rfl (by decide +kernel)
set_option maxRecDepth 20000 in
theorem gX11_parseImage_X11_sign : GoodIn wsX11_parseImage (wsV RX11 108 RX11 yX11_sign wsX11_sign) := goodIn_app (goodIn_r _ [11, 12, 13, 9] rfl (by decide +kernel)) ggX11_parseImage_X11_sign
theorem dX11_parseImage_0 : decode cX11_parseImage 0 = .ok (.aload_n 0, 1) := by decide +kernel
theorem dX11_parseImage_1 : decode cX11_parseImage 1 = .ok (.getfield 89, 3) := by decide +kernel
theorem dX11_parseImage_4 : decode cX11_parseImage 4 = .ok (.istore_n 1, 1) := by decide +kernel
theorem dX11_parseImage_5 : decode cX11_parseImage 5 = .ok (.aload_n 0, 1) := by decide +kernel
theorem dX11_parseImage_6 : decode cX11_parseImage 6 = .ok (.iconst 0, 1) := by decide +kernel
theorem dX11_parseImage_7 : decode cX11_parseImage 7 = .ok (.putfield 89, 3) := by decide +kernel
theorem dX11_parseImage_10 : decode cX11_parseImage 10 = .ok (.aload_n 0, 1) := by decide +kernel
theorem dX11_parseImage_11 : decode cX11_parseImage 11 = .ok (.iconst 0, 1) := by decide +kernel
theorem dX11_parseImage_12 : decode cX11_parseImage 12 = .ok (.putfield 92, 3) := by decide +kernel
theorem dX11_parseImage_15 : decode cX11_parseImage 15 = .ok (.aload_n 0, 1) := by decide +kernel
theorem dX11_parseImage_16 : decode cX11_parseImage 16 = .ok (.iload_n 1, 1) := by decide +kernel
theorem dX11_parseImage_17 : decode cX11_parseImage 17 = .ok (.invokevirtual 181, 3) := by decide +kernel
theorem dX11_parseImage_20 : decode cX11_parseImage 20 = .ok (.istore_n 2, 1) := by decide +kernel
theorem dX11_parseImage_21 : decode cX11_parseImage 21 = .ok (.iload_n 2, 1) := by decide +kernel
theorem dX11_parseImage_22 : decode cX11_parseImage 22 = .ok (.bipush (-2), 2) := by decide +kernel
theorem dX11_parseImage_24 : decode cX11_parseImage 24 = .ok (.if_icmp .ne 6, 3) := by decide +kernel
theorem dX11_parseImage_27 : decode cX11_parseImage 27 = .ok (.bipush (-100), 2) := by decide +kernel
theorem dX11_parseImage_29 : decode cX11_parseImage 29 = .ok (.ireturn, 1) := by decide +kernel
theorem dX11_parseImage_30 : decode cX11_parseImage 30 = .ok (.aload_n 0, 1) := by decide +kernel
theorem dX11_parseImage_31 : decode cX11_parseImage 31 = .ok (.dup, 1) := by decide +kernel
theorem dX11_parseImage_32 : decode cX11_parseImage 32 = .ok (.getfield 92, 3) := by decide +kernel
theorem dX11_parseImage_35 : decode cX11_parseImage 35 = .ok (.iconst 1, 1) := by decide +kernel
theorem dX11_parseImage_36 : decode cX11_parseImage 36 = .ok (.iadd, 1) := by decide +kernel
theorem dX11_parseImage_37 : decode cX11_parseImage 37 = .ok (.putfield 92, 3) := by decide +kernel
theorem dX11_parseImage_40 : decode cX11_parseImage 40 = .ok (.aload_n 0, 1) := by decide +kernel
theorem dX11_parseImage_41 : decode cX11_parseImage 41 = .ok (.iload_n 1, 1) := by decide +kernel
theorem dX11_parseImage_42 : decode cX11_parseImage 42 = .ok (.invokevirtual 108, 3) := by decide +kernel
theorem dX11_parseImage_45 : decode cX11_parseImage 45 = .ok (.bipush 58, 2) := by decide +kernel
theorem dX11_parseImage_47 : decode cX11_parseImage 47 = .ok (.if_icmp .eq 6, 3) := by decide +kernel
theorem dX11_parseImage_50 : decode cX11_parseImage 50 = .ok (.bipush (-101), 2) := by decide +kernel
theorem dX11_parseImage_52 : decode cX11_parseImage 52 = .ok (.ireturn, 1) := by decide +kernel
theorem dX11_parseImage_53 : decode cX11_parseImage 53 = .ok (.aload_n 0, 1) := by decide +kernel
theorem dX11_parseImage_54 : decode cX11_parseImage 54 = .ok (.dup, 1) := by decide +kernel
theorem dX11_parseImage_55 : decode cX11_parseImage 55 = .ok (.getfield 92, 3) := by decide +kernel
theorem dX11_parseImage_58 : decode cX11_parseImage 58 = .ok (.iconst 1, 1) := by decide +kernel
theorem dX11_parseImage_59 : decode cX11_parseImage 59 = .ok (.iadd, 1) := by decide +kernel
theorem dX11_parseImage_60 : decode cX11_parseImage 60 = .ok (.putfield 92, 3) := by decide +kernel
theorem dX11_parseImage_63 : decode cX11_parseImage 63 = .ok (.aload_n 0, 1) := by decide +kernel
theorem dX11_parseImage_64 : decode cX11_parseImage 64 = .ok (.iload_n 1, 1) := by decide +kernel
theorem dX11_parseImage_65 : decode cX11_parseImage 65 = .ok (.invokevirtual 181, 3) := by decide +kernel
theorem dX11_parseImage_68 : decode cX11_parseImage 68 = .ok (.bipush (-2), 2) := by decide +kernel
theorem dX11_parseImage_70 : decode cX11_parseImage 70 = .ok (.if_icmp .ne 6, 3) := by decide +kernel
theorem dX11_parseImage_73 : decode cX11_parseImage 73 = .ok (.bipush (-102), 2) := by decide +kernel
theorem dX11_parseImage_75 : decode cX11_parseImage 75 = .ok (.ireturn, 1) := by decide +kernel
theorem dX11_parseImage_76 : decode cX11_parseImage 76 = .ok (.iconst 0, 1) := by decide +kernel
theorem dX11_parseImage_77 : decode cX11_parseImage 77 = .ok (.istore_n 3, 1) := by decide +kernel
theorem dX11_parseImage_78 : decode cX11_parseImage 78 = .ok (.iload_n 3, 1) := by decide +kernel
theorem dX11_parseImage_79 : decode cX11_parseImage 79 = .ok (.iconst 4, 1) := by decide +kernel
theorem dX11_parseImage_80 : decode cX11_parseImage 80 = .ok (.if_icmp .ge 29, 3) := by decide +kernel
theorem dX11_parseImage_83 : decode cX11_parseImage 83 = .ok (.aload_n 0, 1) := by decide +kernel
theorem dX11_parseImage_84 : decode cX11_parseImage 84 = .ok (.iload_n 1, 1) := by decide +kernel
theorem dX11_parseImage_85 : decode cX11_parseImage 85 = .ok (.invokevirtual 181, 3) := by decide +kernel
theorem dX11_parseImage_88 : decode cX11_parseImage 88 = .ok (.bipush (-2), 2) := by decide +kernel
theorem dX11_parseImage_90 : decode cX11_parseImage 90 = .ok (.if_icmp .eq 19, 3) := by decide +kernel
theorem dX11_parseImage_93 : decode cX11_parseImage 93 = .ok (.iinc 3 1, 3) := by decide +kernel
theorem dX11_parseImage_96 : decode cX11_parseImage 96 = .ok (.aload_n 0, 1) := by decide +kernel
theorem dX11_parseImage_97 : decode cX11_parseImage 97 = .ok (.dup, 1) := by decide +kernel
theorem dX11_parseImage_98 : decode cX11_parseImage 98 = .ok (.getfield 92, 3) := by decide +kernel
theorem dX11_parseImage_101 : decode cX11_parseImage 101 = .ok (.iconst 1, 1) := by decide +kernel
theorem dX11_parseImage_102 : decode cX11_parseImage 102 = .ok (.iadd, 1) := by decide +kernel
theorem dX11_parseImage_103 : decode cX11_parseImage 103 = .ok (.putfield 92, 3) := by decide +kernel
theorem dX11_parseImage_106 : decode cX11_parseImage 106 = .ok (.goto (-28), 3) := by decide +kernel
theorem dX11_parseImage_109 : decode cX11_parseImage 109 = .ok (.aload_n 0, 1) := by decide +kernel
theorem dX11_parseImage_110 : decode cX11_parseImage 110 = .ok (.getfield 92, 3) := by decide +kernel
theorem dX11_parseImage_113 : decode cX11_parseImage 113 = .ok (.iload_n 1, 1) := by decide +kernel
theorem dX11_parseImage_114 : decode cX11_parseImage 114 = .ok (.if_icmp .ge 11, 3) := by decide +kernel
theorem dX11_parseImage_117 : decode cX11_parseImage 117 = .ok (.bipush (-100), 2) := by decide +kernel
theorem dX11_parseImage_119 : decode cX11_parseImage 119 = .ok (.aload_n 0, 1) := by decide +kernel
theorem dX11_parseImage_120 : decode cX11_parseImage 120 = .ok (.getfield 92, 3) := by decide +kernel
theorem dX11_parseImage_123 : decode cX11_parseImage 123 = .ok (.isub, 1) := by decide +kernel
theorem dX11_parseImage_124 : decode cX11_parseImage 124 = .ok (.ireturn, 1) := by decide +kernel
theorem dX11_parseImage_125 : decode cX11_parseImage 125 = .ok (.aload_n 0, 1) := by decide +kernel
theorem dX11_parseImage_126 : decode cX11_parseImage 126 = .ok (.getfield 32, 3) := by decide +kernel
theorem dX11_parseImage_129 : decode cX11_parseImage 129 = .ok (.iload_n 2, 1) := by decide +kernel
theorem dX11_parseImage_130 : decode cX11_parseImage 130 = .ok (.iload_n 3, 1) := by decide +kernel
theorem dX11_parseImage_131 : decode cX11_parseImage 131 = .ok (.iastore, 1) := by decide +kernel
theorem dX11_parseImage_132 : decode cX11_parseImage 132 = .ok (.iconst 0, 1) := by decide +kernel
theorem dX11_parseImage_133 : decode cX11_parseImage 133 = .ok (.istore 4, 2) := by decide +kernel
theorem dX11_parseImage_135 : decode cX11_parseImage 135 = .ok (.iload 4, 2) := by decide +kernel
theorem dX11_parseImage_137 : decode cX11_parseImage 137 = .ok (.iload_n 3, 1) := by decide +kernel
theorem dX11_parseImage_138 : decode cX11_parseImage 138 = .ok (.if_icmp .ge 32, 3) := by decide +kernel
theorem dX11_parseImage_141 : decode cX11_parseImage 141 = .ok (.aload_n 0, 1) := by decide +kernel
theorem dX11_parseImage_142 : decode cX11_parseImage 142 = .ok (.getfield 29, 3) := by decide +kernel
theorem dX11_parseImage_145 : decode cX11_parseImage 145 = .ok (.iconst 4, 1) := by decide +kernel
theorem dX11_parseImage_146 : decode cX11_parseImage 146 = .ok (.iload_n 2, 1) := by decide +kernel
theorem dX11_parseImage_147 : decode cX11_parseImage 147 = .ok (.imul, 1) := by decide +kernel
theorem dX11_parseImage_148 : decode cX11_parseImage 148 = .ok (.iload 4, 2) := by decide +kernel
theorem dX11_parseImage_150 : decode cX11_parseImage 150 = .ok (.iadd, 1) := by decide +kernel
theorem dX11_parseImage_151 : decode cX11_parseImage 151 = .ok (.aload_n 0, 1) := by decide +kernel
theorem dX11_parseImage_152 : decode cX11_parseImage 152 = .ok (.getfield 35, 3) := by decide +kernel
theorem dX11_parseImage_155 : decode cX11_parseImage 155 = .ok (.iconst 2, 1) := by decide +kernel
theorem dX11_parseImage_156 : decode cX11_parseImage 156 = .ok (.iload 4, 2) := by decide +kernel
theorem dX11_parseImage_158 : decode cX11_parseImage 158 = .ok (.iadd, 1) := by decide +kernel
theorem dX11_parseImage_159 : decode cX11_parseImage 159 = .ok (.iaload, 1) := by decide +kernel
theorem dX11_parseImage_160 : decode cX11_parseImage 160 = .ok (.bipush 97, 2) := by decide +kernel
theorem dX11_parseImage_162 : decode cX11_parseImage 162 = .ok (.isub, 1) := by decide +kernel
theorem dX11_parseImage_163 : decode cX11_parseImage 163 = .ok (.iastore, 1) := by decide +kernel
theorem dX11_parseImage_164 : decode cX11_parseImage 164 = .ok (.iinc 4 1, 3) := by decide +kernel
theorem dX11_parseImage_167 : decode cX11_parseImage 167 = .ok (.goto (-32), 3) := by decide +kernel
theorem dX11_parseImage_170 : decode cX11_parseImage 170 = .ok (.iload_n 2, 1) := by decide +kernel
theorem dX11_parseImage_171 : decode cX11_parseImage 171 = .ok (.ireturn, 1) := by decide +kernel
set_option maxRecDepth 20000 in
theorem ggX11_imageLength_X11_isLetter : GoodIn wsX11_imageLength wsX11_isLetter := goodIn_r _ [6, 7, 8, 9, 5, 10, 11, 12, 13, 14, 15, 16, 17, 18, 19, 20, 21, 22, 23, 24, 25, 26, 27, 28, 29, 30, 31, 32, 33, 34, 35, 36, 37, 38, 39, 40, 41, 42, 43, 44, 45, 46] rfl (by decide +kernel)
set_option maxRecDepth 20000 in
theorem gX11_imageLength_X11_isLetter : GoodIn wsX11_imageLength (wsV RX11 111 RX11 yX11_isLetter wsX11_isLetter) := goodIn_app (goodIn_r _ [2, 3, 4, 5] rfl (by decide +kernel)) ggX11_imageLength_X11_isLetter
theorem dX11_imageLength_0 : decode cX11_imageLength 0 = .ok (.aload_n 0, 1) := by decide +kernel
theorem dX11_imageLength_1 : decode cX11_imageLength 1 = .ok (.iload_n 1, 1) := by decide +kernel
theorem dX11_imageLength_2 : decode cX11_imageLength 2 = .ok (.invokevirtual 111, 3) := by decide +kernel
theorem dX11_imageLength_5 : decode cX11_imageLength 5 = .ok (.ifCond .eq 12, 3) := by decide +kernel
theorem dX11_imageLength_8 : decode cX11_imageLength 8 = .ok (.aload_n 0, 1) := by decide +kernel
theorem dX11_imageLength_9 : decode cX11_imageLength 9 = .ok (.getfield 32, 3) := by decide +kernel
theorem dX11_imageLength_12 : decode cX11_imageLength 12 = .ok (.iload_n 1, 1) := by decide +kernel
theorem dX11_imageLength_13 : decode cX11_imageLength 13 = .ok (.iaload, 1) := by decide +kernel
theorem dX11_imageLength_14 : decode cX11_imageLength 14 = .ok (.goto 4, 3) := by decide +kernel
theorem dX11_imageLength_17 : decode cX11_imageLength 17 = .ok (.iconst (-1), 1) := by decide +kernel
theorem dX11_imageLength_18 : decode cX11_imageLength 18 = .ok (.ireturn, 1) := by decide +kernel
theorem dX11_isMissing_0 : decode cX11_isMissing 0 = .ok (.iconst 0, 1) := by decide +kernel
theorem dX11_isMissing_1 : decode cX11_isMissing 1 = .ok (.istore_n 1, 1) := by decide +kernel
theorem dX11_isMissing_2 : decode cX11_isMissing 2 = .ok (.iload_n 1, 1) := by decide +kernel
theorem dX11_isMissing_3 : decode cX11_isMissing 3 = .ok (.aload_n 0, 1) := by decide +kernel
theorem dX11_isMissing_4 : decode cX11_isMissing 4 = .ok (.getfield 16, 3) := by decide +kernel
theorem dX11_isMissing_7 : decode cX11_isMissing 7 = .ok (.if_icmp .ge 20, 3) := by decide +kernel
theorem dX11_isMissing_10 : decode cX11_isMissing 10 = .ok (.aload_n 0, 1) := by decide +kernel
theorem dX11_isMissing_11 : decode cX11_isMissing 11 = .ok (.getfield 32, 3) := by decide +kernel
theorem dX11_isMissing_14 : decode cX11_isMissing 14 = .ok (.iload_n 1, 1) := by decide +kernel
theorem dX11_isMissing_15 : decode cX11_isMissing 15 = .ok (.iaload, 1) := by decide +kernel
theorem dX11_isMissing_16 : decode cX11_isMissing 16 = .ok (.ifCond .ne 5, 3) := by decide +kernel
theorem dX11_isMissing_19 : decode cX11_isMissing 19 = .ok (.iconst 1, 1) := by decide +kernel
theorem dX11_isMissing_20 : decode cX11_isMissing 20 = .ok (.ireturn, 1) := by decide +kernel
theorem dX11_isMissing_21 : decode cX11_isMissing 21 = .ok (.iinc 1 1, 3) := by decide +kernel
theorem dX11_isMissing_24 : decode cX11_isMissing 24 = .ok (.goto (-22), 3) := by decide +kernel
theorem dX11_isMissing_27 : decode cX11_isMissing 27 = .ok (.iconst 0, 1) := by decide +kernel
theorem dX11_isMissing_28 : decode cX11_isMissing 28 = .ok (.ireturn, 1) := by decide +kernel
set_option maxRecDepth 20000 in
theorem ggX11_apply_X11_isWord : GoodIn wsX11_apply wsX11_isWord := goodIn_r _ [10, 11, 12, 9, 13] rfl (by decide +kernel)
set_option maxRecDepth 20000 in
theorem gX11_apply_X11_isWord : GoodIn wsX11_apply (va_wsS RX11 115 yX11_isWord wsX11_isWord) := goodIn_app (goodIn_r _ [7, 8, 9] rfl (by decide +kernel)) ggX11_apply_X11_isWord
set_option maxRecDepth 20000 in
theorem ggX11_apply_X11_take : GoodIn wsX11_apply wsX11_take := goodIn_r _ [17, 1, 4, 5, 3, 18, 19, 20, 21, 22, 23, 24, 25, 26, 27, 28, 29, 30, 31, 32, 33, 34, 35, 36, 37, 38, 39, 40, 41, 42, 43, 44, 45, 46, 47, 48, 49, 50, 51, 52, 53] rfl (by decide +kernel)
set_option maxRecDepth 20000 in
theorem gX11_apply_X11_take : GoodIn wsX11_apply (wsV RX11 151 RX11 yX11_take wsX11_take) := goodIn_app (goodIn_r _ [14, 15, 16, 9] rfl (by decide +kernel)) ggX11_apply_X11_take
theorem dX11_apply_0 : decode cX11_apply 0 = .ok (.iload_n 1, 1) := by decide +kernel
theorem dX11_apply_1 : decode cX11_apply 1 = .ok (.invokestatic 115, 3) := by decide +kernel
theorem dX11_apply_4 : decode cX11_apply 4 = .ok (.ifCond .ne 5, 3) := by decide +kernel
theorem dX11_apply_7 : decode cX11_apply 7 = .ok (.iconst (-1), 1) := by decide +kernel
theorem dX11_apply_8 : decode cX11_apply 8 = .ok (.ireturn, 1) := by decide +kernel
theorem dX11_apply_9 : decode cX11_apply 9 = .ok (.iconst 0, 1) := by decide +kernel
theorem dX11_apply_10 : decode cX11_apply 10 = .ok (.istore_n 2, 1) := by decide +kernel
theorem dX11_apply_11 : decode cX11_apply 11 = .ok (.iconst 0, 1) := by decide +kernel
theorem dX11_apply_12 : decode cX11_apply 12 = .ok (.istore_n 3, 1) := by decide +kernel
theorem dX11_apply_13 : decode cX11_apply 13 = .ok (.iconst 0, 1) := by decide +kernel
theorem dX11_apply_14 : decode cX11_apply 14 = .ok (.istore 4, 2) := by decide +kernel
theorem dX11_apply_16 : decode cX11_apply 16 = .ok (.iload 4, 2) := by decide +kernel
theorem dX11_apply_18 : decode cX11_apply 18 = .ok (.aload_n 0, 1) := by decide +kernel
theorem dX11_apply_19 : decode cX11_apply 19 = .ok (.getfield 26, 3) := by decide +kernel
theorem dX11_apply_22 : decode cX11_apply 22 = .ok (.iload_n 1, 1) := by decide +kernel
theorem dX11_apply_23 : decode cX11_apply 23 = .ok (.iaload, 1) := by decide +kernel
theorem dX11_apply_24 : decode cX11_apply 24 = .ok (.if_icmp .ge 48, 3) := by decide +kernel
theorem dX11_apply_27 : decode cX11_apply 27 = .ok (.aload_n 0, 1) := by decide +kernel
theorem dX11_apply_28 : decode cX11_apply 28 = .ok (.getfield 32, 3) := by decide +kernel
theorem dX11_apply_31 : decode cX11_apply 31 = .ok (.aload_n 0, 1) := by decide +kernel
theorem dX11_apply_32 : decode cX11_apply 32 = .ok (.getfield 23, 3) := by decide +kernel
theorem dX11_apply_35 : decode cX11_apply 35 = .ok (.bipush 40, 2) := by decide +kernel
theorem dX11_apply_37 : decode cX11_apply 37 = .ok (.iload_n 1, 1) := by decide +kernel
theorem dX11_apply_38 : decode cX11_apply 38 = .ok (.imul, 1) := by decide +kernel
theorem dX11_apply_39 : decode cX11_apply 39 = .ok (.iload 4, 2) := by decide +kernel
theorem dX11_apply_41 : decode cX11_apply 41 = .ok (.iadd, 1) := by decide +kernel
theorem dX11_apply_42 : decode cX11_apply 42 = .ok (.iaload, 1) := by decide +kernel
theorem dX11_apply_43 : decode cX11_apply 43 = .ok (.iaload, 1) := by decide +kernel
theorem dX11_apply_44 : decode cX11_apply 44 = .ok (.istore 5, 2) := by decide +kernel
theorem dX11_apply_46 : decode cX11_apply 46 = .ok (.iload_n 2, 1) := by decide +kernel
theorem dX11_apply_47 : decode cX11_apply 47 = .ok (.iload 5, 2) := by decide +kernel
theorem dX11_apply_49 : decode cX11_apply 49 = .ok (.iadd, 1) := by decide +kernel
theorem dX11_apply_50 : decode cX11_apply 50 = .ok (.istore_n 2, 1) := by decide +kernel
theorem dX11_apply_51 : decode cX11_apply 51 = .ok (.iload_n 3, 1) := by decide +kernel
theorem dX11_apply_52 : decode cX11_apply 52 = .ok (.ifCond .ne 8, 3) := by decide +kernel
theorem dX11_apply_55 : decode cX11_apply 55 = .ok (.iload 5, 2) := by decide +kernel
theorem dX11_apply_57 : decode cX11_apply 57 = .ok (.ifCond .ne 7, 3) := by decide +kernel
theorem dX11_apply_60 : decode cX11_apply 60 = .ok (.iconst 1, 1) := by decide +kernel
theorem dX11_apply_61 : decode cX11_apply 61 = .ok (.goto 4, 3) := by decide +kernel
theorem dX11_apply_64 : decode cX11_apply 64 = .ok (.iconst 0, 1) := by decide +kernel
theorem dX11_apply_65 : decode cX11_apply 65 = .ok (.istore_n 3, 1) := by decide +kernel
theorem dX11_apply_66 : decode cX11_apply 66 = .ok (.iinc 4 1, 3) := by decide +kernel
theorem dX11_apply_69 : decode cX11_apply 69 = .ok (.goto (-53), 3) := by decide +kernel
theorem dX11_apply_72 : decode cX11_apply 72 = .ok (.iload_n 3, 1) := by decide +kernel
theorem dX11_apply_73 : decode cX11_apply 73 = .ok (.ifCond .eq 6, 3) := by decide +kernel
theorem dX11_apply_76 : decode cX11_apply 76 = .ok (.bipush (-6), 2) := by decide +kernel
theorem dX11_apply_78 : decode cX11_apply 78 = .ok (.ireturn, 1) := by decide +kernel
theorem dX11_apply_79 : decode cX11_apply 79 = .ok (.iload_n 2, 1) := by decide +kernel
theorem dX11_apply_80 : decode cX11_apply 80 = .ok (.bipush 40, 2) := by decide +kernel
theorem dX11_apply_82 : decode cX11_apply 82 = .ok (.if_icmp .le 6, 3) := by decide +kernel
theorem dX11_apply_85 : decode cX11_apply 85 = .ok (.bipush (-3), 2) := by decide +kernel
theorem dX11_apply_87 : decode cX11_apply 87 = .ok (.ireturn, 1) := by decide +kernel
theorem dX11_apply_88 : decode cX11_apply 88 = .ok (.aload_n 0, 1) := by decide +kernel
theorem dX11_apply_89 : decode cX11_apply 89 = .ok (.iload_n 1, 1) := by decide +kernel
theorem dX11_apply_90 : decode cX11_apply 90 = .ok (.invokevirtual 151, 3) := by decide +kernel
theorem dX11_apply_93 : decode cX11_apply 93 = .ok (.aload_n 0, 1) := by decide +kernel
theorem dX11_apply_94 : decode cX11_apply 94 = .ok (.getfield 26, 3) := by decide +kernel
theorem dX11_apply_97 : decode cX11_apply 97 = .ok (.iload_n 1, 1) := by decide +kernel
theorem dX11_apply_98 : decode cX11_apply 98 = .ok (.iconst 0, 1) := by decide +kernel
theorem dX11_apply_99 : decode cX11_apply 99 = .ok (.iastore, 1) := by decide +kernel
theorem dX11_apply_100 : decode cX11_apply 100 = .ok (.iconst 0, 1) := by decide +kernel
theorem dX11_apply_101 : decode cX11_apply 101 = .ok (.istore 4, 2) := by decide +kernel
theorem dX11_apply_103 : decode cX11_apply 103 = .ok (.iload 4, 2) := by decide +kernel
theorem dX11_apply_105 : decode cX11_apply 105 = .ok (.aload_n 0, 1) := by decide +kernel
theorem dX11_apply_106 : decode cX11_apply 106 = .ok (.getfield 118, 3) := by decide +kernel
theorem dX11_apply_109 : decode cX11_apply 109 = .ok (.if_icmp .ge 78, 3) := by decide +kernel
theorem dX11_apply_112 : decode cX11_apply 112 = .ok (.iconst 0, 1) := by decide +kernel
theorem dX11_apply_113 : decode cX11_apply 113 = .ok (.istore 5, 2) := by decide +kernel
theorem dX11_apply_115 : decode cX11_apply 115 = .ok (.iload 5, 2) := by decide +kernel
theorem dX11_apply_117 : decode cX11_apply 117 = .ok (.aload_n 0, 1) := by decide +kernel
theorem dX11_apply_118 : decode cX11_apply 118 = .ok (.getfield 32, 3) := by decide +kernel
theorem dX11_apply_121 : decode cX11_apply 121 = .ok (.aload_n 0, 1) := by decide +kernel
theorem dX11_apply_122 : decode cX11_apply 122 = .ok (.getfield 38, 3) := by decide +kernel
theorem dX11_apply_125 : decode cX11_apply 125 = .ok (.iload 4, 2) := by decide +kernel
theorem dX11_apply_127 : decode cX11_apply 127 = .ok (.iaload, 1) := by decide +kernel
theorem dX11_apply_128 : decode cX11_apply 128 = .ok (.iaload, 1) := by decide +kernel
theorem dX11_apply_129 : decode cX11_apply 129 = .ok (.if_icmp .ge 52, 3) := by decide +kernel
theorem dX11_apply_132 : decode cX11_apply 132 = .ok (.aload_n 0, 1) := by decide +kernel
theorem dX11_apply_133 : decode cX11_apply 133 = .ok (.getfield 23, 3) := by decide +kernel
theorem dX11_apply_136 : decode cX11_apply 136 = .ok (.bipush 40, 2) := by decide +kernel
theorem dX11_apply_138 : decode cX11_apply 138 = .ok (.iload_n 1, 1) := by decide +kernel
theorem dX11_apply_139 : decode cX11_apply 139 = .ok (.imul, 1) := by decide +kernel
theorem dX11_apply_140 : decode cX11_apply 140 = .ok (.aload_n 0, 1) := by decide +kernel
theorem dX11_apply_141 : decode cX11_apply 141 = .ok (.getfield 26, 3) := by decide +kernel
theorem dX11_apply_144 : decode cX11_apply 144 = .ok (.iload_n 1, 1) := by decide +kernel
theorem dX11_apply_145 : decode cX11_apply 145 = .ok (.iaload, 1) := by decide +kernel
theorem dX11_apply_146 : decode cX11_apply 146 = .ok (.iadd, 1) := by decide +kernel
theorem dX11_apply_147 : decode cX11_apply 147 = .ok (.aload_n 0, 1) := by decide +kernel
theorem dX11_apply_148 : decode cX11_apply 148 = .ok (.getfield 29, 3) := by decide +kernel
theorem dX11_apply_151 : decode cX11_apply 151 = .ok (.iconst 4, 1) := by decide +kernel
theorem dX11_apply_152 : decode cX11_apply 152 = .ok (.aload_n 0, 1) := by decide +kernel
theorem dX11_apply_153 : decode cX11_apply 153 = .ok (.getfield 38, 3) := by decide +kernel
theorem dX11_apply_156 : decode cX11_apply 156 = .ok (.iload 4, 2) := by decide +kernel
theorem dX11_apply_158 : decode cX11_apply 158 = .ok (.iaload, 1) := by decide +kernel
theorem dX11_apply_159 : decode cX11_apply 159 = .ok (.imul, 1) := by decide +kernel
theorem dX11_apply_160 : decode cX11_apply 160 = .ok (.iload 5, 2) := by decide +kernel
theorem dX11_apply_162 : decode cX11_apply 162 = .ok (.iadd, 1) := by decide +kernel
theorem dX11_apply_163 : decode cX11_apply 163 = .ok (.iaload, 1) := by decide +kernel
theorem dX11_apply_164 : decode cX11_apply 164 = .ok (.iastore, 1) := by decide +kernel
theorem dX11_apply_165 : decode cX11_apply 165 = .ok (.aload_n 0, 1) := by decide +kernel
theorem dX11_apply_166 : decode cX11_apply 166 = .ok (.getfield 26, 3) := by decide +kernel
theorem dX11_apply_169 : decode cX11_apply 169 = .ok (.iload_n 1, 1) := by decide +kernel
theorem dX11_apply_170 : decode cX11_apply 170 = .ok (.dup2, 1) := by decide +kernel
theorem dX11_apply_171 : decode cX11_apply 171 = .ok (.iaload, 1) := by decide +kernel
theorem dX11_apply_172 : decode cX11_apply 172 = .ok (.iconst 1, 1) := by decide +kernel
theorem dX11_apply_173 : decode cX11_apply 173 = .ok (.iadd, 1) := by decide +kernel
theorem dX11_apply_174 : decode cX11_apply 174 = .ok (.iastore, 1) := by decide +kernel
theorem dX11_apply_175 : decode cX11_apply 175 = .ok (.iinc 5 1, 3) := by decide +kernel
theorem dX11_apply_178 : decode cX11_apply 178 = .ok (.goto (-63), 3) := by decide +kernel
theorem dX11_apply_181 : decode cX11_apply 181 = .ok (.iinc 4 1, 3) := by decide +kernel
theorem dX11_apply_184 : decode cX11_apply 184 = .ok (.goto (-81), 3) := by decide +kernel
theorem dX11_apply_187 : decode cX11_apply 187 = .ok (.iload_n 2, 1) := by decide +kernel
theorem dX11_apply_188 : decode cX11_apply 188 = .ok (.ireturn, 1) := by decide +kernel
set_option maxRecDepth 20000 in
theorem ggX11_iterate_X11_isWord : GoodIn wsX11_iterate wsX11_isWord := goodIn_r _ [8, 9, 10, 7, 11] rfl (by decide +kernel)
set_option maxRecDepth 20000 in
theorem gX11_iterate_X11_isWord : GoodIn wsX11_iterate (va_wsS RX11 115 yX11_isWord wsX11_isWord) := goodIn_app (goodIn_r _ [5, 6, 7] rfl (by decide +kernel)) ggX11_iterate_X11_isWord
set_option maxRecDepth 20000 in
theorem ggX11_iterate_X11_isLetter : GoodIn wsX11_iterate wsX11_isLetter := goodIn_r _ [15, 16, 9, 10, 7, 11, 21, 22, 23, 24, 25, 26, 27, 28, 29, 30, 31, 32, 33, 34, 35, 36, 37, 38, 39, 40, 41, 42, 43, 44, 45, 46, 47, 48, 49, 50, 51, 52, 53, 54, 55, 56] rfl (by decide +kernel)
set_option maxRecDepth 20000 in
theorem gX11_iterate_X11_isLetter : GoodIn wsX11_iterate (wsV RX11 111 RX11 yX11_isLetter wsX11_isLetter) := goodIn_app (goodIn_r _ [12, 13, 14, 7] rfl (by decide +kernel)) ggX11_iterate_X11_isLetter
set_option maxRecDepth 20000 in
theorem ggX11_iterate_X11_isMissing : GoodIn wsX11_iterate wsX11_isMissing := goodIn_r _ [20, 16, 1, 21, 22, 23, 24, 25, 26, 27, 28, 29, 30, 31, 32, 33, 34, 35, 36, 37, 38, 39, 40, 41, 42, 43, 44, 45, 46, 47, 48, 49, 50, 51, 52, 53, 54, 55, 56] rfl (by decide +kernel)
set_option maxRecDepth 20000 in
theorem gX11_iterate_X11_isMissing : GoodIn wsX11_iterate (wsV RX11 184 RX11 yX11_isMissing wsX11_isMissing) := goodIn_app (goodIn_r _ [17, 18, 19, 7] rfl (by decide +kernel)) ggX11_iterate_X11_isMissing
theorem dX11_iterate_0 : decode cX11_iterate 0 = .ok (.iload_n 1, 1) := by decide +kernel
theorem dX11_iterate_1 : decode cX11_iterate 1 = .ok (.invokestatic 115, 3) := by decide +kernel
theorem dX11_iterate_4 : decode cX11_iterate 4 = .ok (.ifCond .eq 11, 3) := by decide +kernel
theorem dX11_iterate_7 : decode cX11_iterate 7 = .ok (.aload_n 0, 1) := by decide +kernel
theorem dX11_iterate_8 : decode cX11_iterate 8 = .ok (.iload_n 2, 1) := by decide +kernel
theorem dX11_iterate_9 : decode cX11_iterate 9 = .ok (.invokevirtual 111, 3) := by decide +kernel
theorem dX11_iterate_12 : decode cX11_iterate 12 = .ok (.ifCond .ne 5, 3) := by decide +kernel
theorem dX11_iterate_15 : decode cX11_iterate 15 = .ok (.iconst (-1), 1) := by decide +kernel
theorem dX11_iterate_16 : decode cX11_iterate 16 = .ok (.ireturn, 1) := by decide +kernel
theorem dX11_iterate_17 : decode cX11_iterate 17 = .ok (.aload_n 0, 1) := by decide +kernel
theorem dX11_iterate_18 : decode cX11_iterate 18 = .ok (.invokevirtual 184, 3) := by decide +kernel
theorem dX11_iterate_21 : decode cX11_iterate 21 = .ok (.ifCond .eq 6, 3) := by decide +kernel
theorem dX11_iterate_24 : decode cX11_iterate 24 = .ok (.bipush (-6), 2) := by decide +kernel
theorem dX11_iterate_26 : decode cX11_iterate 26 = .ok (.ireturn, 1) := by decide +kernel
theorem dX11_iterate_27 : decode cX11_iterate 27 = .ok (.aload_n 0, 1) := by decide +kernel
theorem dX11_iterate_28 : decode cX11_iterate 28 = .ok (.getfield 32, 3) := by decide +kernel
theorem dX11_iterate_31 : decode cX11_iterate 31 = .ok (.iload_n 2, 1) := by decide +kernel
theorem dX11_iterate_32 : decode cX11_iterate 32 = .ok (.iaload, 1) := by decide +kernel
theorem dX11_iterate_33 : decode cX11_iterate 33 = .ok (.iconst 1, 1) := by decide +kernel
theorem dX11_iterate_34 : decode cX11_iterate 34 = .ok (.if_icmp .eq 15, 3) := by decide +kernel
theorem dX11_iterate_37 : decode cX11_iterate 37 = .ok (.aload_n 0, 1) := by decide +kernel
theorem dX11_iterate_38 : decode cX11_iterate 38 = .ok (.getfield 29, 3) := by decide +kernel
theorem dX11_iterate_41 : decode cX11_iterate 41 = .ok (.iconst 4, 1) := by decide +kernel
theorem dX11_iterate_42 : decode cX11_iterate 42 = .ok (.iload_n 2, 1) := by decide +kernel
theorem dX11_iterate_43 : decode cX11_iterate 43 = .ok (.imul, 1) := by decide +kernel
theorem dX11_iterate_44 : decode cX11_iterate 44 = .ok (.iaload, 1) := by decide +kernel
theorem dX11_iterate_45 : decode cX11_iterate 45 = .ok (.iload_n 2, 1) := by decide +kernel
theorem dX11_iterate_46 : decode cX11_iterate 46 = .ok (.if_icmp .eq 6, 3) := by decide +kernel
theorem dX11_iterate_49 : decode cX11_iterate 49 = .ok (.bipush (-7), 2) := by decide +kernel
theorem dX11_iterate_51 : decode cX11_iterate 51 = .ok (.ireturn, 1) := by decide +kernel
theorem dX11_iterate_52 : decode cX11_iterate 52 = .ok (.iconst 1, 1) := by decide +kernel
theorem dX11_iterate_53 : decode cX11_iterate 53 = .ok (.istore_n 3, 1) := by decide +kernel
theorem dX11_iterate_54 : decode cX11_iterate 54 = .ok (.aload_n 0, 1) := by decide +kernel
theorem dX11_iterate_55 : decode cX11_iterate 55 = .ok (.getfield 23, 3) := by decide +kernel
theorem dX11_iterate_58 : decode cX11_iterate 58 = .ok (.bipush 40, 2) := by decide +kernel
theorem dX11_iterate_60 : decode cX11_iterate 60 = .ok (.iload_n 1, 1) := by decide +kernel
theorem dX11_iterate_61 : decode cX11_iterate 61 = .ok (.imul, 1) := by decide +kernel
theorem dX11_iterate_62 : decode cX11_iterate 62 = .ok (.iload_n 2, 1) := by decide +kernel
theorem dX11_iterate_63 : decode cX11_iterate 63 = .ok (.iastore, 1) := by decide +kernel
theorem dX11_iterate_64 : decode cX11_iterate 64 = .ok (.iconst 0, 1) := by decide +kernel
theorem dX11_iterate_65 : decode cX11_iterate 65 = .ok (.istore 4, 2) := by decide +kernel
theorem dX11_iterate_67 : decode cX11_iterate 67 = .ok (.iload_n 3, 1) := by decide +kernel
theorem dX11_iterate_68 : decode cX11_iterate 68 = .ok (.bipush 40, 2) := by decide +kernel
theorem dX11_iterate_70 : decode cX11_iterate 70 = .ok (.if_icmp .ge 85, 3) := by decide +kernel
theorem dX11_iterate_73 : decode cX11_iterate 73 = .ok (.aload_n 0, 1) := by decide +kernel
theorem dX11_iterate_74 : decode cX11_iterate 74 = .ok (.getfield 23, 3) := by decide +kernel
theorem dX11_iterate_77 : decode cX11_iterate 77 = .ok (.bipush 40, 2) := by decide +kernel
theorem dX11_iterate_79 : decode cX11_iterate 79 = .ok (.iload_n 1, 1) := by decide +kernel
theorem dX11_iterate_80 : decode cX11_iterate 80 = .ok (.imul, 1) := by decide +kernel
theorem dX11_iterate_81 : decode cX11_iterate 81 = .ok (.iload 4, 2) := by decide +kernel
theorem dX11_iterate_83 : decode cX11_iterate 83 = .ok (.iadd, 1) := by decide +kernel
theorem dX11_iterate_84 : decode cX11_iterate 84 = .ok (.iaload, 1) := by decide +kernel
theorem dX11_iterate_85 : decode cX11_iterate 85 = .ok (.istore 5, 2) := by decide +kernel
theorem dX11_iterate_87 : decode cX11_iterate 87 = .ok (.iload 4, 2) := by decide +kernel
theorem dX11_iterate_89 : decode cX11_iterate 89 = .ok (.ifCond .ne 7, 3) := by decide +kernel
theorem dX11_iterate_92 : decode cX11_iterate 92 = .ok (.iconst 1, 1) := by decide +kernel
theorem dX11_iterate_93 : decode cX11_iterate 93 = .ok (.goto 4, 3) := by decide +kernel
theorem dX11_iterate_96 : decode cX11_iterate 96 = .ok (.iconst 0, 1) := by decide +kernel
theorem dX11_iterate_97 : decode cX11_iterate 97 = .ok (.istore 6, 2) := by decide +kernel
theorem dX11_iterate_99 : decode cX11_iterate 99 = .ok (.iload 6, 2) := by decide +kernel
theorem dX11_iterate_101 : decode cX11_iterate 101 = .ok (.aload_n 0, 1) := by decide +kernel
theorem dX11_iterate_102 : decode cX11_iterate 102 = .ok (.getfield 32, 3) := by decide +kernel
theorem dX11_iterate_105 : decode cX11_iterate 105 = .ok (.iload 5, 2) := by decide +kernel
theorem dX11_iterate_107 : decode cX11_iterate 107 = .ok (.iaload, 1) := by decide +kernel
theorem dX11_iterate_108 : decode cX11_iterate 108 = .ok (.if_icmp .ge 41, 3) := by decide +kernel
theorem dX11_iterate_111 : decode cX11_iterate 111 = .ok (.iload_n 3, 1) := by decide +kernel
theorem dX11_iterate_112 : decode cX11_iterate 112 = .ok (.bipush 40, 2) := by decide +kernel
theorem dX11_iterate_114 : decode cX11_iterate 114 = .ok (.if_icmp .ge 35, 3) := by decide +kernel
theorem dX11_iterate_117 : decode cX11_iterate 117 = .ok (.aload_n 0, 1) := by decide +kernel
theorem dX11_iterate_118 : decode cX11_iterate 118 = .ok (.getfield 23, 3) := by decide +kernel
theorem dX11_iterate_121 : decode cX11_iterate 121 = .ok (.bipush 40, 2) := by decide +kernel
theorem dX11_iterate_123 : decode cX11_iterate 123 = .ok (.iload_n 1, 1) := by decide +kernel
theorem dX11_iterate_124 : decode cX11_iterate 124 = .ok (.imul, 1) := by decide +kernel
theorem dX11_iterate_125 : decode cX11_iterate 125 = .ok (.iload_n 3, 1) := by decide +kernel
theorem dX11_iterate_126 : decode cX11_iterate 126 = .ok (.iadd, 1) := by decide +kernel
theorem dX11_iterate_127 : decode cX11_iterate 127 = .ok (.aload_n 0, 1) := by decide +kernel
theorem dX11_iterate_128 : decode cX11_iterate 128 = .ok (.getfield 29, 3) := by decide +kernel
theorem dX11_iterate_131 : decode cX11_iterate 131 = .ok (.iconst 4, 1) := by decide +kernel
theorem dX11_iterate_132 : decode cX11_iterate 132 = .ok (.iload 5, 2) := by decide +kernel
theorem dX11_iterate_134 : decode cX11_iterate 134 = .ok (.imul, 1) := by decide +kernel
theorem dX11_iterate_135 : decode cX11_iterate 135 = .ok (.iload 6, 2) := by decide +kernel
theorem dX11_iterate_137 : decode cX11_iterate 137 = .ok (.iadd, 1) := by decide +kernel
theorem dX11_iterate_138 : decode cX11_iterate 138 = .ok (.iaload, 1) := by decide +kernel
theorem dX11_iterate_139 : decode cX11_iterate 139 = .ok (.iastore, 1) := by decide +kernel
theorem dX11_iterate_140 : decode cX11_iterate 140 = .ok (.iinc 3 1, 3) := by decide +kernel
theorem dX11_iterate_143 : decode cX11_iterate 143 = .ok (.iinc 6 1, 3) := by decide +kernel
theorem dX11_iterate_146 : decode cX11_iterate 146 = .ok (.goto (-47), 3) := by decide +kernel
theorem dX11_iterate_149 : decode cX11_iterate 149 = .ok (.iinc 4 1, 3) := by decide +kernel
theorem dX11_iterate_152 : decode cX11_iterate 152 = .ok (.goto (-85), 3) := by decide +kernel
theorem dX11_iterate_155 : decode cX11_iterate 155 = .ok (.aload_n 0, 1) := by decide +kernel
theorem dX11_iterate_156 : decode cX11_iterate 156 = .ok (.getfield 26, 3) := by decide +kernel
theorem dX11_iterate_159 : decode cX11_iterate 159 = .ok (.iload_n 1, 1) := by decide +kernel
theorem dX11_iterate_160 : decode cX11_iterate 160 = .ok (.bipush 40, 2) := by decide +kernel
theorem dX11_iterate_162 : decode cX11_iterate 162 = .ok (.iastore, 1) := by decide +kernel
theorem dX11_iterate_163 : decode cX11_iterate 163 = .ok (.bipush 40, 2) := by decide +kernel
theorem dX11_iterate_165 : decode cX11_iterate 165 = .ok (.ireturn, 1) := by decide +kernel
theorem dX11_entry_0 : decode cX11_entry 0 = .ok (.iconst 0, 1) := by decide +kernel
theorem dX11_entry_1 : decode cX11_entry 1 = .ok (.istore_n 3, 1) := by decide +kernel
theorem dX11_entry_2 : decode cX11_entry 2 = .ok (.iconst 0, 1) := by decide +kernel
theorem dX11_entry_3 : decode cX11_entry 3 = .ok (.istore 4, 2) := by decide +kernel
theorem dX11_entry_5 : decode cX11_entry 5 = .ok (.iload 4, 2) := by decide +kernel
theorem dX11_entry_7 : decode cX11_entry 7 = .ok (.aload_n 0, 1) := by decide +kernel
theorem dX11_entry_8 : decode cX11_entry 8 = .ok (.getfield 32, 3) := by decide +kernel
theorem dX11_entry_11 : decode cX11_entry 11 = .ok (.iload_n 2, 1) := by decide +kernel
theorem dX11_entry_12 : decode cX11_entry 12 = .ok (.iaload, 1) := by decide +kernel
theorem dX11_entry_13 : decode cX11_entry 13 = .ok (.if_icmp .ge 32, 3) := by decide +kernel
theorem dX11_entry_16 : decode cX11_entry 16 = .ok (.iload_n 3, 1) := by decide +kernel
theorem dX11_entry_17 : decode cX11_entry 17 = .ok (.aload_n 0, 1) := by decide +kernel
theorem dX11_entry_18 : decode cX11_entry 18 = .ok (.getfield 29, 3) := by decide +kernel
theorem dX11_entry_21 : decode cX11_entry 21 = .ok (.iconst 4, 1) := by decide +kernel
theorem dX11_entry_22 : decode cX11_entry 22 = .ok (.iload_n 2, 1) := by decide +kernel
theorem dX11_entry_23 : decode cX11_entry 23 = .ok (.imul, 1) := by decide +kernel
theorem dX11_entry_24 : decode cX11_entry 24 = .ok (.iload 4, 2) := by decide +kernel
theorem dX11_entry_26 : decode cX11_entry 26 = .ok (.iadd, 1) := by decide +kernel
theorem dX11_entry_27 : decode cX11_entry 27 = .ok (.iaload, 1) := by decide +kernel
theorem dX11_entry_28 : decode cX11_entry 28 = .ok (.iload_n 1, 1) := by decide +kernel
theorem dX11_entry_29 : decode cX11_entry 29 = .ok (.if_icmp .ne 7, 3) := by decide +kernel
theorem dX11_entry_32 : decode cX11_entry 32 = .ok (.iconst 1, 1) := by decide +kernel
theorem dX11_entry_33 : decode cX11_entry 33 = .ok (.goto 4, 3) := by decide +kernel
theorem dX11_entry_36 : decode cX11_entry 36 = .ok (.iconst 0, 1) := by decide +kernel
theorem dX11_entry_37 : decode cX11_entry 37 = .ok (.iadd, 1) := by decide +kernel
theorem dX11_entry_38 : decode cX11_entry 38 = .ok (.istore_n 3, 1) := by decide +kernel
theorem dX11_entry_39 : decode cX11_entry 39 = .ok (.iinc 4 1, 3) := by decide +kernel
theorem dX11_entry_42 : decode cX11_entry 42 = .ok (.goto (-37), 3) := by decide +kernel
theorem dX11_entry_45 : decode cX11_entry 45 = .ok (.iload_n 3, 1) := by decide +kernel
theorem dX11_entry_46 : decode cX11_entry 46 = .ok (.ireturn, 1) := by decide +kernel
set_option maxRecDepth 20000 in
theorem ggX11_minor_X11_entry : GoodIn wsX11_minor wsX11_entry := goodIn_r _ [6, 7, 8, 12, 13, 14, 15, 16, 17, 18, 19, 20, 21, 22, 23, 24, 25, 26, 27, 28, 29, 30, 31, 32, 33, 34, 35, 36, 37, 38, 39, 40, 41, 42, 43, 44, 45, 46, 47] rfl (by decide +kernel)
set_option maxRecDepth 20000 in
theorem gX11_minor_X11_entry : GoodIn wsX11_minor (wsV RX11 187 RX11 yX11_entry wsX11_entry) := goodIn_app (goodIn_r _ [2, 3, 4, 5] rfl (by decide +kernel)) ggX11_minor_X11_entry
set_option maxRecDepth 20000 in
theorem ggX11_minor_X11_minor : GoodIn wsX11_minor wsX11_minor := goodIn_r _ [0, 1, 2, 3, 4, 5, 6, 7, 8, 9, 10, 11, 12, 13, 14, 15, 16, 17, 18, 19, 20, 21, 22, 23, 24, 25, 26, 27, 28, 29, 30, 31, 32, 33, 34, 35, 36, 37, 38, 39, 40, 41, 42, 43, 44, 45, 46, 47] rfl (by decide +kernel)
set_option maxRecDepth 20000 in
theorem gX11_minor_X11_minor : GoodIn wsX11_minor (wsV RX11 190 RX11 yX11_minor wsX11_minor) := goodIn_app (goodIn_r _ [9, 10, 11, 5] rfl (by decide +kernel)) ggX11_minor_X11_minor
theorem dX11_minor_0 : decode cX11_minor 0 = .ok (.iload_n 1, 1) := by decide +kernel
theorem dX11_minor_1 : decode cX11_minor 1 = .ok (.aload_n 0, 1) := by decide +kernel
theorem dX11_minor_2 : decode cX11_minor 2 = .ok (.getfield 16, 3) := by decide +kernel
theorem dX11_minor_5 : decode cX11_minor 5 = .ok (.if_icmp .ne 5, 3) := by decide +kernel
theorem dX11_minor_8 : decode cX11_minor 8 = .ok (.lconst 1, 1) := by decide +kernel
theorem dX11_minor_9 : decode cX11_minor 9 = .ok (.lreturn, 1) := by decide +kernel
theorem dX11_minor_10 : decode cX11_minor 10 = .ok (.lconst 0, 1) := by decide +kernel
theorem dX11_minor_11 : decode cX11_minor 11 = .ok (.lstore_n 3, 1) := by decide +kernel
theorem dX11_minor_12 : decode cX11_minor 12 = .ok (.iconst 1, 1) := by decide +kernel
theorem dX11_minor_13 : decode cX11_minor 13 = .ok (.istore 5, 2) := by decide +kernel
theorem dX11_minor_15 : decode cX11_minor 15 = .ok (.iconst 0, 1) := by decide +kernel
theorem dX11_minor_16 : decode cX11_minor 16 = .ok (.istore 6, 2) := by decide +kernel
theorem dX11_minor_18 : decode cX11_minor 18 = .ok (.iload 6, 2) := by decide +kernel
theorem dX11_minor_20 : decode cX11_minor 20 = .ok (.aload_n 0, 1) := by decide +kernel
theorem dX11_minor_21 : decode cX11_minor 21 = .ok (.getfield 16, 3) := by decide +kernel
theorem dX11_minor_24 : decode cX11_minor 24 = .ok (.if_icmp .ge 51, 3) := by decide +kernel
theorem dX11_minor_27 : decode cX11_minor 27 = .ok (.iload_n 2, 1) := by decide +kernel
theorem dX11_minor_28 : decode cX11_minor 28 = .ok (.iload 6, 2) := by decide +kernel
theorem dX11_minor_30 : decode cX11_minor 30 = .ok (.ishr, 1) := by decide +kernel
theorem dX11_minor_31 : decode cX11_minor 31 = .ok (.iconst 1, 1) := by decide +kernel
theorem dX11_minor_32 : decode cX11_minor 32 = .ok (.iand, 1) := by decide +kernel
theorem dX11_minor_33 : decode cX11_minor 33 = .ok (.ifCond .ne 36, 3) := by decide +kernel
theorem dX11_minor_36 : decode cX11_minor 36 = .ok (.lload_n 3, 1) := by decide +kernel
theorem dX11_minor_37 : decode cX11_minor 37 = .ok (.iload 5, 2) := by decide +kernel
theorem dX11_minor_39 : decode cX11_minor 39 = .ok (.aload_n 0, 1) := by decide +kernel
theorem dX11_minor_40 : decode cX11_minor 40 = .ok (.iload_n 1, 1) := by decide +kernel
theorem dX11_minor_41 : decode cX11_minor 41 = .ok (.iload 6, 2) := by decide +kernel
theorem dX11_minor_43 : decode cX11_minor 43 = .ok (.invokevirtual 187, 3) := by decide +kernel
theorem dX11_minor_46 : decode cX11_minor 46 = .ok (.imul, 1) := by decide +kernel
theorem dX11_minor_47 : decode cX11_minor 47 = .ok (.i2l, 1) := by decide +kernel
theorem dX11_minor_48 : decode cX11_minor 48 = .ok (.aload_n 0, 1) := by decide +kernel
theorem dX11_minor_49 : decode cX11_minor 49 = .ok (.iload_n 1, 1) := by decide +kernel
theorem dX11_minor_50 : decode cX11_minor 50 = .ok (.iconst 1, 1) := by decide +kernel
theorem dX11_minor_51 : decode cX11_minor 51 = .ok (.iadd, 1) := by decide +kernel
theorem dX11_minor_52 : decode cX11_minor 52 = .ok (.iload_n 2, 1) := by decide +kernel
theorem dX11_minor_53 : decode cX11_minor 53 = .ok (.iconst 1, 1) := by decide +kernel
theorem dX11_minor_54 : decode cX11_minor 54 = .ok (.iload 6, 2) := by decide +kernel
theorem dX11_minor_56 : decode cX11_minor 56 = .ok (.ishl, 1) := by decide +kernel
theorem dX11_minor_57 : decode cX11_minor 57 = .ok (.ior, 1) := by decide +kernel
theorem dX11_minor_58 : decode cX11_minor 58 = .ok (.invokevirtual 190, 3) := by decide +kernel
theorem dX11_minor_61 : decode cX11_minor 61 = .ok (.lmul, 1) := by decide +kernel
theorem dX11_minor_62 : decode cX11_minor 62 = .ok (.ladd, 1) := by decide +kernel
theorem dX11_minor_63 : decode cX11_minor 63 = .ok (.lstore_n 3, 1) := by decide +kernel
theorem dX11_minor_64 : decode cX11_minor 64 = .ok (.iload 5, 2) := by decide +kernel
theorem dX11_minor_66 : decode cX11_minor 66 = .ok (.ineg, 1) := by decide +kernel
theorem dX11_minor_67 : decode cX11_minor 67 = .ok (.istore 5, 2) := by decide +kernel
theorem dX11_minor_69 : decode cX11_minor 69 = .ok (.iinc 6 1, 3) := by decide +kernel
theorem dX11_minor_72 : decode cX11_minor 72 = .ok (.goto (-54), 3) := by decide +kernel
theorem dX11_minor_75 : decode cX11_minor 75 = .ok (.lload_n 3, 1) := by decide +kernel
theorem dX11_minor_76 : decode cX11_minor 76 = .ok (.lreturn, 1) := by decide +kernel
set_option maxRecDepth 20000 in
theorem ggX11_determinant_X11_isMissing : GoodIn wsX11_determinant wsX11_isMissing := goodIn_r _ [6, 7, 8, 18, 19, 20, 21, 22, 23, 24, 25, 26, 27, 28, 29, 30, 31, 32, 33, 34, 35, 36, 37, 38, 39, 40, 41, 42, 43, 44, 45, 46, 47, 48, 49, 50, 51, 52, 53] rfl (by decide +kernel)
set_option maxRecDepth 20000 in
theorem gX11_determinant_X11_isMissing : GoodIn wsX11_determinant (wsV RX11 184 RX11 yX11_isMissing wsX11_isMissing) := goodIn_app (goodIn_r _ [2, 3, 4, 5] rfl (by decide +kernel)) ggX11_determinant_X11_isMissing
set_option maxRecDepth 20000 in
theorem ggX11_determinant_X11_minor : GoodIn wsX11_determinant wsX11_minor := goodIn_r _ [12, 7, 13, 14, 15, 5, 16, 8, 17, 9, 10, 11, 18, 19, 20, 21, 22, 23, 24, 25, 26, 27, 28, 29, 30, 31, 32, 33, 34, 35, 36, 37, 38, 39, 40, 41, 42, 43, 44, 45, 46, 47, 48, 49, 50, 51, 52, 53] rfl (by decide +kernel)
set_option maxRecDepth 20000 in
theorem gX11_determinant_X11_minor : GoodIn wsX11_determinant (wsV RX11 190 RX11 yX11_minor wsX11_minor) := goodIn_app (goodIn_r _ [9, 10, 11, 5] rfl (by decide +kernel)) ggX11_determinant_X11_minor
theorem dX11_determinant_0 : decode cX11_determinant 0 = .ok (.aload_n 0, 1) := by decide +kernel
theorem dX11_determinant_1 : decode cX11_determinant 1 = .ok (.invokevirtual 184, 3) := by decide +kernel
theorem dX11_determinant_4 : decode cX11_determinant 4 = .ok (.ifCond .eq 9, 3) := by decide +kernel
theorem dX11_determinant_7 : decode cX11_determinant 7 = .ok (.ldc2_w 196, 3) := by decide +kernel
theorem dX11_determinant_10 : decode cX11_determinant 10 = .ok (.goto 9, 3) := by decide +kernel
theorem dX11_determinant_13 : decode cX11_determinant 13 = .ok (.aload_n 0, 1) := by decide +kernel
theorem dX11_determinant_14 : decode cX11_determinant 14 = .ok (.iconst 0, 1) := by decide +kernel
theorem dX11_determinant_15 : decode cX11_determinant 15 = .ok (.iconst 0, 1) := by decide +kernel
theorem dX11_determinant_16 : decode cX11_determinant 16 = .ok (.invokevirtual 190, 3) := by decide +kernel
theorem dX11_determinant_19 : decode cX11_determinant 19 = .ok (.lreturn, 1) := by decide +kernel
theorem dX11_compare_0 : decode cX11_compare 0 = .ok (.iconst 0, 1) := by decide +kernel
theorem dX11_compare_1 : decode cX11_compare 1 = .ok (.istore_n 2, 1) := by decide +kernel
theorem dX11_compare_2 : decode cX11_compare 2 = .ok (.iload_n 2, 1) := by decide +kernel
theorem dX11_compare_3 : decode cX11_compare 3 = .ok (.bipush 7, 2) := by decide +kernel
theorem dX11_compare_5 : decode cX11_compare 5 = .ok (.if_icmp .ge 34, 3) := by decide +kernel
theorem dX11_compare_8 : decode cX11_compare 8 = .ok (.aload_n 0, 1) := by decide +kernel
theorem dX11_compare_9 : decode cX11_compare 9 = .ok (.getfield 41, 3) := by decide +kernel
theorem dX11_compare_12 : decode cX11_compare 12 = .ok (.bipush 7, 2) := by decide +kernel
theorem dX11_compare_14 : decode cX11_compare 14 = .ok (.iload_n 1, 1) := by decide +kernel
theorem dX11_compare_15 : decode cX11_compare 15 = .ok (.imul, 1) := by decide +kernel
theorem dX11_compare_16 : decode cX11_compare 16 = .ok (.iload_n 2, 1) := by decide +kernel
theorem dX11_compare_17 : decode cX11_compare 17 = .ok (.iadd, 1) := by decide +kernel
theorem dX11_compare_18 : decode cX11_compare 18 = .ok (.iaload, 1) := by decide +kernel
theorem dX11_compare_19 : decode cX11_compare 19 = .ok (.aload_n 0, 1) := by decide +kernel
theorem dX11_compare_20 : decode cX11_compare 20 = .ok (.getfield 47, 3) := by decide +kernel
theorem dX11_compare_23 : decode cX11_compare 23 = .ok (.iload_n 2, 1) := by decide +kernel
theorem dX11_compare_24 : decode cX11_compare 24 = .ok (.iaload, 1) := by decide +kernel
theorem dX11_compare_25 : decode cX11_compare 25 = .ok (.isub, 1) := by decide +kernel
theorem dX11_compare_26 : decode cX11_compare 26 = .ok (.istore_n 3, 1) := by decide +kernel
theorem dX11_compare_27 : decode cX11_compare 27 = .ok (.iload_n 3, 1) := by decide +kernel
theorem dX11_compare_28 : decode cX11_compare 28 = .ok (.ifCond .eq 5, 3) := by decide +kernel
theorem dX11_compare_31 : decode cX11_compare 31 = .ok (.iload_n 3, 1) := by decide +kernel
theorem dX11_compare_32 : decode cX11_compare 32 = .ok (.ireturn, 1) := by decide +kernel
theorem dX11_compare_33 : decode cX11_compare 33 = .ok (.iinc 2 1, 3) := by decide +kernel
theorem dX11_compare_36 : decode cX11_compare 36 = .ok (.goto (-34), 3) := by decide +kernel
theorem dX11_compare_39 : decode cX11_compare 39 = .ok (.iconst 0, 1) := by decide +kernel
theorem dX11_compare_40 : decode cX11_compare 40 = .ok (.ireturn, 1) := by decide +kernel
set_option maxRecDepth 20000 in
theorem ggX11_enter_X11_compare : GoodIn wsX11_enter wsX11_compare := goodIn_r _ [8, 2, 3, 9, 10, 11, 12, 13, 14, 15, 16, 17, 18, 19, 20, 21, 22, 23, 24, 25, 26, 27, 28, 29, 30, 31, 32, 33, 34, 35, 36, 37, 38, 39, 40, 41, 42, 43, 44] rfl (by decide +kernel)
set_option maxRecDepth 20000 in
theorem gX11_enter_X11_compare : GoodIn wsX11_enter (wsV RX11 201 RX11 yX11_compare wsX11_compare) := goodIn_app (goodIn_r _ [4, 5, 6, 7] rfl (by decide +kernel)) ggX11_enter_X11_compare
theorem dX11_enter_0 : decode cX11_enter 0 = .ok (.iconst 0, 1) := by decide +kernel
