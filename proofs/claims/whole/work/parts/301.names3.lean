theorem dX4_grain_90 : decode cX4_grain 90 = .ok (.if_icmp .le 10, 3) := by decide +kernel
theorem dX4_grain_93 : decode cX4_grain 93 = .ok (.iload 5, 2) := by decide +kernel
theorem dX4_grain_95 : decode cX4_grain 95 = .ok (.istore_n 3, 1) := by decide +kernel
theorem dX4_grain_96 : decode cX4_grain 96 = .ok (.iload 7, 2) := by decide +kernel
theorem dX4_grain_98 : decode cX4_grain 98 = .ok (.istore 4, 2) := by decide +kernel
theorem dX4_grain_100 : decode cX4_grain 100 = .ok (.iinc 5 1, 3) := by decide +kernel
theorem dX4_grain_103 : decode cX4_grain 103 = .ok (.goto (-76), 3) := by decide +kernel
theorem dX4_grain_106 : decode cX4_grain 106 = .ok (.iload_n 3, 1) := by decide +kernel
theorem dX4_grain_107 : decode cX4_grain 107 = .ok (.ireturn, 1) := by decide +kernel
set_option maxRecDepth 20000 in
theorem ggX4_shares_X4_other : GoodIn wsX4_shares wsX4_other := goodIn_r _ [7] (by decide +kernel) (by decide +kernel)
set_option maxRecDepth 20000 in
theorem gX4_shares_X4_other : GoodIn wsX4_shares (va_wsS RX4 72 yX4_other wsX4_other) := goodIn_app (goodIn_of _ (by decide +kernel)) ggX4_shares_X4_other
set_option maxRecDepth 20000 in
theorem ggX4_shares_X4_refused : GoodIn wsX4_shares wsX4_refused := goodIn_r _ [11, 12, 13, 14, 15, 16, 17, 18, 19, 20, 21, 22, 23] (by decide +kernel) (by decide +kernel)
set_option maxRecDepth 20000 in
theorem gX4_shares_X4_refused : GoodIn wsX4_shares (wsV RX4 57 RX4 yX4_refused wsX4_refused) := goodIn_app (goodIn_of _ (by decide +kernel)) ggX4_shares_X4_refused
theorem dX4_shares_0 : decode cX4_shares 0 = .ok (.iload_n 1, 1) := by decide +kernel
theorem dX4_shares_1 : decode cX4_shares 1 = .ok (.iconst 1, 1) := by decide +kernel
theorem dX4_shares_2 : decode cX4_shares 2 = .ok (.invokestatic 72, 3) := by decide +kernel
theorem dX4_shares_5 : decode cX4_shares 5 = .ok (.istore_n 2, 1) := by decide +kernel
theorem dX4_shares_6 : decode cX4_shares 6 = .ok (.iload_n 2, 1) := by decide +kernel
theorem dX4_shares_7 : decode cX4_shares 7 = .ok (.ifCond .eq 9, 3) := by decide +kernel
theorem dX4_shares_10 : decode cX4_shares 10 = .ok (.aload_n 0, 1) := by decide +kernel
theorem dX4_shares_11 : decode cX4_shares 11 = .ok (.iload_n 2, 1) := by decide +kernel
theorem dX4_shares_12 : decode cX4_shares 12 = .ok (.invokevirtual 57, 3) := by decide +kernel
theorem dX4_shares_15 : decode cX4_shares 15 = .ok (.ireturn, 1) := by decide +kernel
theorem dX4_shares_16 : decode cX4_shares 16 = .ok (.aload_n 0, 1) := by decide +kernel
theorem dX4_shares_17 : decode cX4_shares 17 = .ok (.getfield 10, 3) := by decide +kernel
theorem dX4_shares_20 : decode cX4_shares 20 = .ok (.getfield 159, 3) := by decide +kernel
theorem dX4_shares_23 : decode cX4_shares 23 = .ok (.iconst 1, 1) := by decide +kernel
theorem dX4_shares_24 : decode cX4_shares 24 = .ok (.if_icmp .ge 19, 3) := by decide +kernel
theorem dX4_shares_27 : decode cX4_shares 27 = .ok (.iload_n 1, 1) := by decide +kernel
theorem dX4_shares_28 : decode cX4_shares 28 = .ok (.ifCond .ne 7, 3) := by decide +kernel
theorem dX4_shares_31 : decode cX4_shares 31 = .ok (.iconst 0, 1) := by decide +kernel
theorem dX4_shares_32 : decode cX4_shares 32 = .ok (.goto 10, 3) := by decide +kernel
theorem dX4_shares_35 : decode cX4_shares 35 = .ok (.aload_n 0, 1) := by decide +kernel
theorem dX4_shares_36 : decode cX4_shares 36 = .ok (.getfield 10, 3) := by decide +kernel
theorem dX4_shares_39 : decode cX4_shares 39 = .ok (.getfield 111, 3) := by decide +kernel
theorem dX4_shares_42 : decode cX4_shares 42 = .ok (.ireturn, 1) := by decide +kernel
theorem dX4_shares_43 : decode cX4_shares 43 = .ok (.iload_n 1, 1) := by decide +kernel
theorem dX4_shares_44 : decode cX4_shares 44 = .ok (.ifCond .ne 21, 3) := by decide +kernel
theorem dX4_shares_47 : decode cX4_shares 47 = .ok (.aload_n 0, 1) := by decide +kernel
theorem dX4_shares_48 : decode cX4_shares 48 = .ok (.getfield 10, 3) := by decide +kernel
theorem dX4_shares_51 : decode cX4_shares 51 = .ok (.getfield 111, 3) := by decide +kernel
theorem dX4_shares_54 : decode cX4_shares 54 = .ok (.aload_n 0, 1) := by decide +kernel
theorem dX4_shares_55 : decode cX4_shares 55 = .ok (.getfield 10, 3) := by decide +kernel
theorem dX4_shares_58 : decode cX4_shares 58 = .ok (.getfield 159, 3) := by decide +kernel
theorem dX4_shares_61 : decode cX4_shares 61 = .ok (.idiv, 1) := by decide +kernel
theorem dX4_shares_62 : decode cX4_shares 62 = .ok (.goto 18, 3) := by decide +kernel
theorem dX4_shares_65 : decode cX4_shares 65 = .ok (.aload_n 0, 1) := by decide +kernel
theorem dX4_shares_66 : decode cX4_shares 66 = .ok (.getfield 10, 3) := by decide +kernel
theorem dX4_shares_69 : decode cX4_shares 69 = .ok (.getfield 111, 3) := by decide +kernel
theorem dX4_shares_72 : decode cX4_shares 72 = .ok (.aload_n 0, 1) := by decide +kernel
theorem dX4_shares_73 : decode cX4_shares 73 = .ok (.getfield 10, 3) := by decide +kernel
theorem dX4_shares_76 : decode cX4_shares 76 = .ok (.getfield 159, 3) := by decide +kernel
theorem dX4_shares_79 : decode cX4_shares 79 = .ok (.irem, 1) := by decide +kernel
theorem dX4_shares_80 : decode cX4_shares 80 = .ok (.ireturn, 1) := by decide +kernel
set_option maxRecDepth 20000 in
theorem ggX4_richest_X1_at : GoodIn wsX4_richest wsX1_at := goodIn_r _ [8, 9, 10, 22, 23, 24, 25, 26, 27] (by decide +kernel) (by decide +kernel)
set_option maxRecDepth 20000 in
theorem gX4_richest_X1_at : GoodIn wsX4_richest (wsV RX4 79 RX1 yX1_at wsX1_at) := goodIn_app (goodIn_of _ (by decide +kernel)) ggX4_richest_X1_at
theorem dX4_richest_0 : decode cX4_richest 0 = .ok (.bipush (-9), 2) := by decide +kernel
theorem dX4_richest_2 : decode cX4_richest 2 = .ok (.istore_n 1, 1) := by decide +kernel
theorem dX4_richest_3 : decode cX4_richest 3 = .ok (.bipush (-9), 2) := by decide +kernel
theorem dX4_richest_5 : decode cX4_richest 5 = .ok (.istore_n 2, 1) := by decide +kernel
theorem dX4_richest_6 : decode cX4_richest 6 = .ok (.iconst 0, 1) := by decide +kernel
theorem dX4_richest_7 : decode cX4_richest 7 = .ok (.istore_n 3, 1) := by decide +kernel
theorem dX4_richest_8 : decode cX4_richest 8 = .ok (.iload_n 3, 1) := by decide +kernel
theorem dX4_richest_9 : decode cX4_richest 9 = .ok (.aload_n 0, 1) := by decide +kernel
theorem dX4_richest_10 : decode cX4_richest 10 = .ok (.getfield 10, 3) := by decide +kernel
theorem dX4_richest_13 : decode cX4_richest 13 = .ok (.getfield 159, 3) := by decide +kernel
theorem dX4_richest_16 : decode cX4_richest 16 = .ok (.if_icmp .ge 33, 3) := by decide +kernel
theorem dX4_richest_19 : decode cX4_richest 19 = .ok (.aload_n 0, 1) := by decide +kernel
theorem dX4_richest_20 : decode cX4_richest 20 = .ok (.getfield 10, 3) := by decide +kernel
theorem dX4_richest_23 : decode cX4_richest 23 = .ok (.iload_n 3, 1) := by decide +kernel
theorem dX4_richest_24 : decode cX4_richest 24 = .ok (.invokevirtual 79, 3) := by decide +kernel
theorem dX4_richest_27 : decode cX4_richest 27 = .ok (.getfield 89, 3) := by decide +kernel
theorem dX4_richest_30 : decode cX4_richest 30 = .ok (.istore 4, 2) := by decide +kernel
theorem dX4_richest_32 : decode cX4_richest 32 = .ok (.iload 4, 2) := by decide +kernel
theorem dX4_richest_34 : decode cX4_richest 34 = .ok (.iload_n 2, 1) := by decide +kernel
theorem dX4_richest_35 : decode cX4_richest 35 = .ok (.if_icmp .le 8, 3) := by decide +kernel
theorem dX4_richest_38 : decode cX4_richest 38 = .ok (.iload_n 3, 1) := by decide +kernel
theorem dX4_richest_39 : decode cX4_richest 39 = .ok (.istore_n 1, 1) := by decide +kernel
theorem dX4_richest_40 : decode cX4_richest 40 = .ok (.iload 4, 2) := by decide +kernel
theorem dX4_richest_42 : decode cX4_richest 42 = .ok (.istore_n 2, 1) := by decide +kernel
theorem dX4_richest_43 : decode cX4_richest 43 = .ok (.iinc 3 1, 3) := by decide +kernel
theorem dX4_richest_46 : decode cX4_richest 46 = .ok (.goto (-38), 3) := by decide +kernel
theorem dX4_richest_49 : decode cX4_richest 49 = .ok (.iload_n 1, 1) := by decide +kernel
theorem dX4_richest_50 : decode cX4_richest 50 = .ok (.ireturn, 1) := by decide +kernel
set_option maxRecDepth 20000 in
theorem ggX4_trusted_X4_unknown : GoodIn wsX4_trusted wsX4_unknown := goodIn_r _ [9, 2, 10, 11, 12, 13, 14, 15, 27, 28, 29, 30, 31, 32, 33, 34, 35, 36, 37, 46, 47, 48, 49, 50, 51] (by decide +kernel) (by decide +kernel)
set_option maxRecDepth 20000 in
theorem gX4_trusted_X4_unknown : GoodIn wsX4_trusted (wsV RX4 69 RX4 yX4_unknown wsX4_unknown) := goodIn_app (goodIn_of _ (by decide +kernel)) ggX4_trusted_X4_unknown
set_option maxRecDepth 20000 in
theorem ggX4_trusted_X4_refused : GoodIn wsX4_trusted wsX4_refused := goodIn_r _ [19, 20, 27, 28, 29, 30, 31, 32, 33, 34, 35, 36, 37] (by decide +kernel) (by decide +kernel)
set_option maxRecDepth 20000 in
theorem gX4_trusted_X4_refused : GoodIn wsX4_trusted (wsV RX4 57 RX4 yX4_refused wsX4_refused) := goodIn_app (goodIn_of _ (by decide +kernel)) ggX4_trusted_X4_refused
set_option maxRecDepth 20000 in
theorem ggX4_trusted_X1_at : GoodIn wsX4_trusted wsX1_at := goodIn_r _ [24, 25, 26, 46, 47, 48, 49, 50, 51] (by decide +kernel) (by decide +kernel)
set_option maxRecDepth 20000 in
theorem gX4_trusted_X1_at : GoodIn wsX4_trusted (wsV RX4 79 RX1 yX1_at wsX1_at) := goodIn_app (goodIn_of _ (by decide +kernel)) ggX4_trusted_X1_at
theorem dX4_trusted_0 : decode cX4_trusted 0 = .ok (.aload_n 0, 1) := by decide +kernel
theorem dX4_trusted_1 : decode cX4_trusted 1 = .ok (.iload_n 1, 1) := by decide +kernel
theorem dX4_trusted_2 : decode cX4_trusted 2 = .ok (.invokevirtual 69, 3) := by decide +kernel
theorem dX4_trusted_5 : decode cX4_trusted 5 = .ok (.istore_n 2, 1) := by decide +kernel
theorem dX4_trusted_6 : decode cX4_trusted 6 = .ok (.iload_n 2, 1) := by decide +kernel
theorem dX4_trusted_7 : decode cX4_trusted 7 = .ok (.ifCond .eq 12, 3) := by decide +kernel
theorem dX4_trusted_10 : decode cX4_trusted 10 = .ok (.ldc 188, 2) := by decide +kernel
theorem dX4_trusted_12 : decode cX4_trusted 12 = .ok (.aload_n 0, 1) := by decide +kernel
theorem dX4_trusted_13 : decode cX4_trusted 13 = .ok (.iload_n 2, 1) := by decide +kernel
theorem dX4_trusted_14 : decode cX4_trusted 14 = .ok (.invokevirtual 57, 3) := by decide +kernel
theorem dX4_trusted_17 : decode cX4_trusted 17 = .ok (.isub, 1) := by decide +kernel
theorem dX4_trusted_18 : decode cX4_trusted 18 = .ok (.ireturn, 1) := by decide +kernel
theorem dX4_trusted_19 : decode cX4_trusted 19 = .ok (.aload_n 0, 1) := by decide +kernel
theorem dX4_trusted_20 : decode cX4_trusted 20 = .ok (.getfield 10, 3) := by decide +kernel
theorem dX4_trusted_23 : decode cX4_trusted 23 = .ok (.iload_n 1, 1) := by decide +kernel
theorem dX4_trusted_24 : decode cX4_trusted 24 = .ok (.invokevirtual 79, 3) := by decide +kernel
theorem dX4_trusted_27 : decode cX4_trusted 27 = .ok (.astore_n 3, 1) := by decide +kernel
theorem dX4_trusted_28 : decode cX4_trusted 28 = .ok (.aload_n 3, 1) := by decide +kernel
theorem dX4_trusted_29 : decode cX4_trusted 29 = .ok (.getfield 95, 3) := by decide +kernel
theorem dX4_trusted_32 : decode cX4_trusted 32 = .ok (.aload_n 3, 1) := by decide +kernel
theorem dX4_trusted_33 : decode cX4_trusted 33 = .ok (.getfield 98, 3) := by decide +kernel
theorem dX4_trusted_36 : decode cX4_trusted 36 = .ok (.isub, 1) := by decide +kernel
theorem dX4_trusted_37 : decode cX4_trusted 37 = .ok (.ireturn, 1) := by decide +kernel
set_option maxRecDepth 20000 in
theorem ggX4_worth_X1_allThrough : GoodIn wsX4_worth wsX1_allThrough := goodIn_r _ [6, 7, 8, 9, 10, 11, 5, 12, 13, 14, 31, 32, 33, 34, 35, 36, 37, 38, 39, 40, 41, 42, 43, 44] (by decide +kernel) (by decide +kernel)
set_option maxRecDepth 20000 in
theorem gX4_worth_X1_allThrough : GoodIn wsX4_worth (wsV RX4 124 RX1 yX1_allThrough wsX1_allThrough) := goodIn_app (goodIn_of _ (by decide +kernel)) ggX4_worth_X1_allThrough
set_option maxRecDepth 20000 in
theorem ggX4_worth_X1_allShort : GoodIn wsX4_worth wsX1_allShort := goodIn_r _ [18, 7, 19, 9, 10, 11, 5, 12, 13, 14, 31, 32, 33, 34, 35, 36, 37, 38, 39, 40, 41, 42, 43, 44] (by decide +kernel) (by decide +kernel)
set_option maxRecDepth 20000 in
theorem gX4_worth_X1_allShort : GoodIn wsX4_worth (wsV RX4 138 RX1 yX1_allShort wsX1_allShort) := goodIn_app (goodIn_of _ (by decide +kernel)) ggX4_worth_X1_allShort
theorem dX4_worth_0 : decode cX4_worth 0 = .ok (.aload_n 0, 1) := by decide +kernel
theorem dX4_worth_1 : decode cX4_worth 1 = .ok (.getfield 10, 3) := by decide +kernel
theorem dX4_worth_4 : decode cX4_worth 4 = .ok (.invokevirtual 124, 3) := by decide +kernel
theorem dX4_worth_7 : decode cX4_worth 7 = .ok (.aload_n 0, 1) := by decide +kernel
theorem dX4_worth_8 : decode cX4_worth 8 = .ok (.getfield 10, 3) := by decide +kernel
theorem dX4_worth_11 : decode cX4_worth 11 = .ok (.invokevirtual 138, 3) := by decide +kernel
theorem dX4_worth_14 : decode cX4_worth 14 = .ok (.isub, 1) := by decide +kernel
theorem dX4_worth_15 : decode cX4_worth 15 = .ok (.ireturn, 1) := by decide +kernel
set_option maxRecDepth 20000 in
theorem ggX4_two_X4_unknown : GoodIn wsX4_two wsX4_unknown := goodIn_r _ [5, 6, 7, 8, 9, 10, 11, 12, 107, 108, 109, 110, 111, 112, 113, 114, 115, 116, 117, 118, 119, 120, 121, 122, 123] (by decide +kernel) (by decide +kernel)
set_option maxRecDepth 20000 in
theorem gX4_two_X4_unknown : GoodIn wsX4_two (wsV RX4 69 RX4 yX4_unknown wsX4_unknown) := goodIn_app (goodIn_of _ (by decide +kernel)) ggX4_two_X4_unknown
set_option maxRecDepth 20000 in
theorem ggX4_two_X4_firstOf : GoodIn wsX4_two wsX4_firstOf := goodIn_r _ [15] (by decide +kernel) (by decide +kernel)
set_option maxRecDepth 20000 in
theorem gX4_two_X4_firstOf : GoodIn wsX4_two (va_wsS RX4 76 yX4_firstOf wsX4_firstOf) := goodIn_app (goodIn_of _ (by decide +kernel)) ggX4_two_X4_firstOf
set_option maxRecDepth 20000 in
theorem ggX4_two_X4_outside : GoodIn wsX4_two wsX4_outside := goodIn_r _ [18] (by decide +kernel) (by decide +kernel)
set_option maxRecDepth 20000 in
theorem gX4_two_X4_outside : GoodIn wsX4_two (va_wsS RX4 49 yX4_outside wsX4_outside) := goodIn_app (goodIn_of _ (by decide +kernel)) ggX4_two_X4_outside
set_option maxRecDepth 20000 in
theorem ggX4_two_X4_refused : GoodIn wsX4_two wsX4_refused := goodIn_r _ [22, 23, 107, 108, 109, 110, 111, 112, 113, 114, 115, 116, 117] (by decide +kernel) (by decide +kernel)
set_option maxRecDepth 20000 in
theorem gX4_two_X4_refused : GoodIn wsX4_two (wsV RX4 57 RX4 yX4_refused wsX4_refused) := goodIn_app (goodIn_of _ (by decide +kernel)) ggX4_two_X4_refused
set_option maxRecDepth 20000 in
theorem ggX4_two_X4_weigh : GoodIn wsX4_two wsX4_weigh := goodIn_r _ [27, 6, 28, 29, 30, 31, 32, 33, 34, 10, 35, 36, 37, 38, 39, 40, 41, 42, 43, 44, 45, 46, 47, 48, 49, 50, 51, 52, 53, 54, 55, 56, 57, 58, 59, 60, 61, 4, 62, 63, 64, 65, 66, 67, 68, 69, 70, 71, 72, 73, 74, 75, 76, 77, 78, 79, 80, 81, 82, 83, 84, 85, 86, 87, 88, 89, 107, 108, 109, 110, 111, 112, 113, 114, 115, 116, 117, 118, 119, 120, 121, 122, 123, 124, 125, 126, 127, 128, 129, 130, 131] (by decide +kernel) (by decide +kernel)
set_option maxRecDepth 20000 in
theorem gX4_two_X4_weigh : GoodIn wsX4_two (wsV RX4 173 RX4 yX4_weigh wsX4_weigh) := goodIn_app (goodIn_of _ (by decide +kernel)) ggX4_two_X4_weigh
set_option maxRecDepth 20000 in
theorem ggX4_two_X4_firstWants : GoodIn wsX4_two wsX4_firstWants := goodIn_r _ [93, 6, 94, 95, 96, 97, 4, 98, 32, 33, 34, 10, 35, 36, 37, 38, 39, 40, 41, 42, 43, 44, 45, 46, 47, 48, 49, 50, 51, 52, 53, 54, 55, 56, 57, 58, 99, 100, 101, 102, 31, 30, 107, 108, 109, 110, 111, 112, 113, 114, 115, 116, 117, 118, 119, 120, 121, 122, 123, 124, 125, 126, 127, 128, 129, 130, 131] (by decide +kernel) (by decide +kernel)
set_option maxRecDepth 20000 in
theorem gX4_two_X4_firstWants : GoodIn wsX4_two (wsV RX4 189 RX4 yX4_firstWants wsX4_firstWants) := goodIn_app (goodIn_of _ (by decide +kernel)) ggX4_two_X4_firstWants
set_option maxRecDepth 20000 in
theorem ggX4_two_X4_otherWants : GoodIn wsX4_two wsX4_otherWants := goodIn_r _ [106, 6, 94, 32, 33, 34, 10, 35, 36, 37, 38, 39, 40, 41, 42, 43, 44, 45, 46, 47, 48, 49, 50, 51, 52, 53, 54, 55, 56, 57, 58, 95, 96, 97, 4, 98, 99, 100, 101, 102, 31, 30, 107, 108, 109, 110, 111, 112, 113, 114, 115, 116, 117, 118, 119, 120, 121, 122, 123, 124, 125, 126, 127, 128, 129, 130, 131] (by decide +kernel) (by decide +kernel)
set_option maxRecDepth 20000 in
theorem gX4_two_X4_otherWants : GoodIn wsX4_two (wsV RX4 192 RX4 yX4_otherWants wsX4_otherWants) := goodIn_app (goodIn_of _ (by decide +kernel)) ggX4_two_X4_otherWants
theorem dX4_two_0 : decode cX4_two 0 = .ok (.aload_n 0, 1) := by decide +kernel
theorem dX4_two_1 : decode cX4_two 1 = .ok (.iload_n 1, 1) := by decide +kernel
theorem dX4_two_2 : decode cX4_two 2 = .ok (.invokevirtual 69, 3) := by decide +kernel
theorem dX4_two_5 : decode cX4_two 5 = .ok (.aload_n 0, 1) := by decide +kernel
theorem dX4_two_6 : decode cX4_two 6 = .ok (.iload_n 2, 1) := by decide +kernel
theorem dX4_two_7 : decode cX4_two 7 = .ok (.invokevirtual 69, 3) := by decide +kernel
theorem dX4_two_10 : decode cX4_two 10 = .ok (.iload_n 1, 1) := by decide +kernel
theorem dX4_two_11 : decode cX4_two 11 = .ok (.iload_n 2, 1) := by decide +kernel
theorem dX4_two_12 : decode cX4_two 12 = .ok (.if_icmp .ne 7, 3) := by decide +kernel
theorem dX4_two_15 : decode cX4_two 15 = .ok (.iconst (-1), 1) := by decide +kernel
theorem dX4_two_16 : decode cX4_two 16 = .ok (.goto 4, 3) := by decide +kernel
theorem dX4_two_19 : decode cX4_two 19 = .ok (.iconst 0, 1) := by decide +kernel
theorem dX4_two_20 : decode cX4_two 20 = .ok (.invokestatic 76, 3) := by decide +kernel
theorem dX4_two_23 : decode cX4_two 23 = .ok (.istore 4, 2) := by decide +kernel
theorem dX4_two_25 : decode cX4_two 25 = .ok (.iload 4, 2) := by decide +kernel
theorem dX4_two_27 : decode cX4_two 27 = .ok (.iload_n 3, 1) := by decide +kernel
theorem dX4_two_28 : decode cX4_two 28 = .ok (.iconst 1, 1) := by decide +kernel
theorem dX4_two_29 : decode cX4_two 29 = .ok (.bipush 30, 2) := by decide +kernel
theorem dX4_two_31 : decode cX4_two 31 = .ok (.invokestatic 49, 3) := by decide +kernel
theorem dX4_two_34 : decode cX4_two 34 = .ok (.iconst 0, 1) := by decide +kernel
theorem dX4_two_35 : decode cX4_two 35 = .ok (.invokestatic 76, 3) := by decide +kernel
theorem dX4_two_38 : decode cX4_two 38 = .ok (.istore 5, 2) := by decide +kernel
theorem dX4_two_40 : decode cX4_two 40 = .ok (.iload 5, 2) := by decide +kernel
theorem dX4_two_42 : decode cX4_two 42 = .ok (.ifCond .eq 10, 3) := by decide +kernel
theorem dX4_two_45 : decode cX4_two 45 = .ok (.aload_n 0, 1) := by decide +kernel
theorem dX4_two_46 : decode cX4_two 46 = .ok (.iload 5, 2) := by decide +kernel
theorem dX4_two_48 : decode cX4_two 48 = .ok (.invokevirtual 57, 3) := by decide +kernel
theorem dX4_two_51 : decode cX4_two 51 = .ok (.ireturn, 1) := by decide +kernel
theorem dX4_two_52 : decode cX4_two 52 = .ok (.aload_n 0, 1) := by decide +kernel
theorem dX4_two_53 : decode cX4_two 53 = .ok (.iload_n 3, 1) := by decide +kernel
theorem dX4_two_54 : decode cX4_two 54 = .ok (.invokevirtual 173, 3) := by decide +kernel
theorem dX4_two_57 : decode cX4_two 57 = .ok (.iconst 0, 1) := by decide +kernel
theorem dX4_two_58 : decode cX4_two 58 = .ok (.istore 6, 2) := by decide +kernel
theorem dX4_two_60 : decode cX4_two 60 = .ok (.iload 6, 2) := by decide +kernel
theorem dX4_two_62 : decode cX4_two 62 = .ok (.iconst 4, 1) := by decide +kernel
theorem dX4_two_63 : decode cX4_two 63 = .ok (.if_icmp .ge 74, 3) := by decide +kernel
theorem dX4_two_66 : decode cX4_two 66 = .ok (.iload 6, 2) := by decide +kernel
theorem dX4_two_68 : decode cX4_two 68 = .ok (.iconst 2, 1) := by decide +kernel
theorem dX4_two_69 : decode cX4_two 69 = .ok (.idiv, 1) := by decide +kernel
theorem dX4_two_70 : decode cX4_two 70 = .ok (.istore 7, 2) := by decide +kernel
theorem dX4_two_72 : decode cX4_two 72 = .ok (.iload 6, 2) := by decide +kernel
theorem dX4_two_74 : decode cX4_two 74 = .ok (.iconst 2, 1) := by decide +kernel
theorem dX4_two_75 : decode cX4_two 75 = .ok (.irem, 1) := by decide +kernel
theorem dX4_two_76 : decode cX4_two 76 = .ok (.istore 8, 2) := by decide +kernel
theorem dX4_two_78 : decode cX4_two 78 = .ok (.aload_n 0, 1) := by decide +kernel
theorem dX4_two_79 : decode cX4_two 79 = .ok (.iload_n 1, 1) := by decide +kernel
theorem dX4_two_80 : decode cX4_two 80 = .ok (.iload 7, 2) := by decide +kernel
theorem dX4_two_82 : decode cX4_two 82 = .ok (.invokevirtual 189, 3) := by decide +kernel
theorem dX4_two_85 : decode cX4_two 85 = .ok (.aload_n 0, 1) := by decide +kernel
theorem dX4_two_86 : decode cX4_two 86 = .ok (.iload_n 1, 1) := by decide +kernel
theorem dX4_two_87 : decode cX4_two 87 = .ok (.iconst 1, 1) := by decide +kernel
theorem dX4_two_88 : decode cX4_two 88 = .ok (.iload 7, 2) := by decide +kernel
theorem dX4_two_90 : decode cX4_two 90 = .ok (.isub, 1) := by decide +kernel
theorem dX4_two_91 : decode cX4_two 91 = .ok (.invokevirtual 189, 3) := by decide +kernel
theorem dX4_two_94 : decode cX4_two 94 = .ok (.if_icmp .lt 37, 3) := by decide +kernel
theorem dX4_two_97 : decode cX4_two 97 = .ok (.aload_n 0, 1) := by decide +kernel
theorem dX4_two_98 : decode cX4_two 98 = .ok (.iload_n 1, 1) := by decide +kernel
theorem dX4_two_99 : decode cX4_two 99 = .ok (.iload 7, 2) := by decide +kernel
theorem dX4_two_101 : decode cX4_two 101 = .ok (.iload_n 2, 1) := by decide +kernel
theorem dX4_two_102 : decode cX4_two 102 = .ok (.iload 8, 2) := by decide +kernel
theorem dX4_two_104 : decode cX4_two 104 = .ok (.invokevirtual 192, 3) := by decide +kernel
theorem dX4_two_107 : decode cX4_two 107 = .ok (.aload_n 0, 1) := by decide +kernel
theorem dX4_two_108 : decode cX4_two 108 = .ok (.iload_n 1, 1) := by decide +kernel
theorem dX4_two_109 : decode cX4_two 109 = .ok (.iload 7, 2) := by decide +kernel
theorem dX4_two_111 : decode cX4_two 111 = .ok (.iload_n 2, 1) := by decide +kernel
theorem dX4_two_112 : decode cX4_two 112 = .ok (.iconst 1, 1) := by decide +kernel
theorem dX4_two_113 : decode cX4_two 113 = .ok (.iload 8, 2) := by decide +kernel
theorem dX4_two_115 : decode cX4_two 115 = .ok (.isub, 1) := by decide +kernel
theorem dX4_two_116 : decode cX4_two 116 = .ok (.invokevirtual 192, 3) := by decide +kernel
theorem dX4_two_119 : decode cX4_two 119 = .ok (.if_icmp .lt 12, 3) := by decide +kernel
theorem dX4_two_122 : decode cX4_two 122 = .ok (.bipush 10, 2) := by decide +kernel
theorem dX4_two_124 : decode cX4_two 124 = .ok (.iload 7, 2) := by decide +kernel
theorem dX4_two_126 : decode cX4_two 126 = .ok (.imul, 1) := by decide +kernel
theorem dX4_two_127 : decode cX4_two 127 = .ok (.iload 8, 2) := by decide +kernel
theorem dX4_two_129 : decode cX4_two 129 = .ok (.iadd, 1) := by decide +kernel
theorem dX4_two_130 : decode cX4_two 130 = .ok (.ireturn, 1) := by decide +kernel
theorem dX4_two_131 : decode cX4_two 131 = .ok (.iinc 6 1, 3) := by decide +kernel
theorem dX4_two_134 : decode cX4_two 134 = .ok (.goto (-74), 3) := by decide +kernel
theorem dX4_two_137 : decode cX4_two 137 = .ok (.bipush (-9), 2) := by decide +kernel
theorem dX4_two_139 : decode cX4_two 139 = .ok (.ireturn, 1) := by decide +kernel
set_option maxRecDepth 20000 in
theorem ggX4_slip_X4_unknown : GoodIn wsX4_slip wsX4_unknown := goodIn_r _ [6, 7, 8, 9, 10, 11, 12, 13, 82, 83, 84, 85, 86, 87, 88, 89, 90, 91, 92, 93, 94, 95, 96, 97, 98] (by decide +kernel) (by decide +kernel)
set_option maxRecDepth 20000 in
theorem gX4_slip_X4_unknown : GoodIn wsX4_slip (wsV RX4 69 RX4 yX4_unknown wsX4_unknown) := goodIn_app (goodIn_of _ (by decide +kernel)) ggX4_slip_X4_unknown
set_option maxRecDepth 20000 in
theorem ggX4_slip_X4_firstOf : GoodIn wsX4_slip wsX4_firstOf := goodIn_r _ [16] (by decide +kernel) (by decide +kernel)
set_option maxRecDepth 20000 in
theorem gX4_slip_X4_firstOf : GoodIn wsX4_slip (va_wsS RX4 76 yX4_firstOf wsX4_firstOf) := goodIn_app (goodIn_of _ (by decide +kernel)) ggX4_slip_X4_firstOf
set_option maxRecDepth 20000 in
theorem ggX4_slip_X4_other : GoodIn wsX4_slip wsX4_other := goodIn_r _ [19] (by decide +kernel) (by decide +kernel)
set_option maxRecDepth 20000 in
theorem gX4_slip_X4_other : GoodIn wsX4_slip (va_wsS RX4 72 yX4_other wsX4_other) := goodIn_app (goodIn_of _ (by decide +kernel)) ggX4_slip_X4_other
set_option maxRecDepth 20000 in
theorem ggX4_slip_X4_refused : GoodIn wsX4_slip wsX4_refused := goodIn_r _ [23, 24, 82, 83, 84, 85, 86, 87, 88, 89, 90, 91, 92] (by decide +kernel) (by decide +kernel)
set_option maxRecDepth 20000 in
theorem gX4_slip_X4_refused : GoodIn wsX4_slip (wsV RX4 57 RX4 yX4_refused wsX4_refused) := goodIn_app (goodIn_of _ (by decide +kernel)) ggX4_slip_X4_refused
set_option maxRecDepth 20000 in
theorem ggX4_slip_X4_throughLosing : GoodIn wsX4_slip wsX4_throughLosing := goodIn_r _ [28, 7, 29, 30, 31, 32, 33, 34, 11, 35, 36, 37, 38, 39, 40, 41, 42, 43, 44, 45, 46, 47, 48, 49, 50, 51, 52, 53, 54, 55, 56, 57, 58, 59, 60, 61, 62, 63, 64, 65, 66, 67, 68, 82, 83, 84, 85, 86, 87, 88, 89, 90, 91, 92, 99, 100, 101, 102, 103, 104, 105, 106, 93, 94, 95, 96, 97, 98] (by decide +kernel) (by decide +kernel)
set_option maxRecDepth 20000 in
theorem gX4_slip_X4_throughLosing : GoodIn wsX4_slip (wsV RX4 198 RX4 yX4_throughLosing wsX4_throughLosing) := goodIn_app (goodIn_of _ (by decide +kernel)) ggX4_slip_X4_throughLosing
set_option maxRecDepth 20000 in
theorem ggX4_slip_J6_bitCount_0f7a4 : GoodIn wsX4_slip wsJ6_bitCount_0f7a4 := goodIn_r _ [72, 73, 74, 75] (by decide +kernel) (by decide +kernel)
set_option maxRecDepth 20000 in
theorem gX4_slip_J6_bitCount_0f7a4 : GoodIn wsX4_slip (va_wsS RX4 162 yJ6_bitCount_0f7a4 wsJ6_bitCount_0f7a4) := goodIn_app (goodIn_of _ (by decide +kernel)) ggX4_slip_J6_bitCount_0f7a4
set_option maxRecDepth 20000 in
theorem ggX4_slip_X4_power : GoodIn wsX4_slip wsX4_power := goodIn_r _ [78] (by decide +kernel) (by decide +kernel)
set_option maxRecDepth 20000 in
theorem gX4_slip_X4_power : GoodIn wsX4_slip (va_wsS RX4 201 yX4_power wsX4_power) := goodIn_app (goodIn_of _ (by decide +kernel)) ggX4_slip_X4_power
set_option maxRecDepth 20000 in
theorem ggX4_slip_X4_leastTerms : GoodIn wsX4_slip wsX4_leastTerms := goodIn_r _ [81] (by decide +kernel) (by decide +kernel)
set_option maxRecDepth 20000 in
theorem gX4_slip_X4_leastTerms : GoodIn wsX4_slip (va_wsS RX4 205 yX4_leastTerms wsX4_leastTerms) := goodIn_app (goodIn_of _ (by decide +kernel)) ggX4_slip_X4_leastTerms
theorem dX4_slip_0 : decode cX4_slip 0 = .ok (.iload_n 2, 1) := by decide +kernel
theorem dX4_slip_1 : decode cX4_slip 1 = .ok (.ifCond .lt 13, 3) := by decide +kernel
theorem dX4_slip_4 : decode cX4_slip 4 = .ok (.iload 4, 2) := by decide +kernel
theorem dX4_slip_6 : decode cX4_slip 6 = .ok (.ifCond .lt 8, 3) := by decide +kernel
theorem dX4_slip_9 : decode cX4_slip 9 = .ok (.iload_n 3, 1) := by decide +kernel
theorem dX4_slip_10 : decode cX4_slip 10 = .ok (.iconst 2, 1) := by decide +kernel
theorem dX4_slip_11 : decode cX4_slip 11 = .ok (.if_icmp .ge 8, 3) := by decide +kernel
theorem dX4_slip_14 : decode cX4_slip 14 = .ok (.bipush (-4), 2) := by decide +kernel
theorem dX4_slip_16 : decode cX4_slip 16 = .ok (.goto 4, 3) := by decide +kernel
theorem dX4_slip_19 : decode cX4_slip 19 = .ok (.iconst 0, 1) := by decide +kernel
theorem dX4_slip_20 : decode cX4_slip 20 = .ok (.istore 6, 2) := by decide +kernel
theorem dX4_slip_22 : decode cX4_slip 22 = .ok (.iload_n 2, 1) := by decide +kernel
theorem dX4_slip_23 : decode cX4_slip 23 = .ok (.bipush 7, 2) := by decide +kernel
theorem dX4_slip_25 : decode cX4_slip 25 = .ok (.if_icmp .gt 16, 3) := by decide +kernel
theorem dX4_slip_28 : decode cX4_slip 28 = .ok (.iload_n 3, 1) := by decide +kernel
theorem dX4_slip_29 : decode cX4_slip 29 = .ok (.bipush 20, 2) := by decide +kernel
theorem dX4_slip_31 : decode cX4_slip 31 = .ok (.if_icmp .gt 10, 3) := by decide +kernel
theorem dX4_slip_34 : decode cX4_slip 34 = .ok (.iload 4, 2) := by decide +kernel
theorem dX4_slip_36 : decode cX4_slip 36 = .ok (.bipush 9, 2) := by decide +kernel
theorem dX4_slip_38 : decode cX4_slip 38 = .ok (.if_icmp .le 8, 3) := by decide +kernel
theorem dX4_slip_41 : decode cX4_slip 41 = .ok (.bipush (-6), 2) := by decide +kernel
theorem dX4_slip_43 : decode cX4_slip 43 = .ok (.goto 4, 3) := by decide +kernel
theorem dX4_slip_46 : decode cX4_slip 46 = .ok (.iconst 0, 1) := by decide +kernel
theorem dX4_slip_47 : decode cX4_slip 47 = .ok (.istore 7, 2) := by decide +kernel
theorem dX4_slip_49 : decode cX4_slip 49 = .ok (.aload_n 0, 1) := by decide +kernel
theorem dX4_slip_50 : decode cX4_slip 50 = .ok (.iload_n 1, 1) := by decide +kernel
theorem dX4_slip_51 : decode cX4_slip 51 = .ok (.invokevirtual 69, 3) := by decide +kernel
theorem dX4_slip_54 : decode cX4_slip 54 = .ok (.iload 6, 2) := by decide +kernel
theorem dX4_slip_56 : decode cX4_slip 56 = .ok (.iload 7, 2) := by decide +kernel
theorem dX4_slip_58 : decode cX4_slip 58 = .ok (.invokestatic 76, 3) := by decide +kernel
theorem dX4_slip_61 : decode cX4_slip 61 = .ok (.istore 8, 2) := by decide +kernel
theorem dX4_slip_63 : decode cX4_slip 63 = .ok (.iload 8, 2) := by decide +kernel
theorem dX4_slip_65 : decode cX4_slip 65 = .ok (.ifCond .ne 11, 3) := by decide +kernel
theorem dX4_slip_68 : decode cX4_slip 68 = .ok (.iload 5, 2) := by decide +kernel
theorem dX4_slip_70 : decode cX4_slip 70 = .ok (.iconst 1, 1) := by decide +kernel
theorem dX4_slip_71 : decode cX4_slip 71 = .ok (.invokestatic 72, 3) := by decide +kernel
theorem dX4_slip_74 : decode cX4_slip 74 = .ok (.istore 8, 2) := by decide +kernel
theorem dX4_slip_76 : decode cX4_slip 76 = .ok (.iload 8, 2) := by decide +kernel
theorem dX4_slip_78 : decode cX4_slip 78 = .ok (.ifCond .eq 15, 3) := by decide +kernel
theorem dX4_slip_81 : decode cX4_slip 81 = .ok (.ldc2_w 196, 3) := by decide +kernel
theorem dX4_slip_84 : decode cX4_slip 84 = .ok (.aload_n 0, 1) := by decide +kernel
theorem dX4_slip_85 : decode cX4_slip 85 = .ok (.iload 8, 2) := by decide +kernel
theorem dX4_slip_87 : decode cX4_slip 87 = .ok (.invokevirtual 57, 3) := by decide +kernel
theorem dX4_slip_90 : decode cX4_slip 90 = .ok (.i2l, 1) := by decide +kernel
theorem dX4_slip_91 : decode cX4_slip 91 = .ok (.lsub, 1) := by decide +kernel
theorem dX4_slip_92 : decode cX4_slip 92 = .ok (.lreturn, 1) := by decide +kernel
theorem dX4_slip_93 : decode cX4_slip 93 = .ok (.lconst 0, 1) := by decide +kernel
theorem dX4_slip_94 : decode cX4_slip 94 = .ok (.lstore 9, 2) := by decide +kernel
theorem dX4_slip_96 : decode cX4_slip 96 = .ok (.iconst 0, 1) := by decide +kernel
theorem dX4_slip_97 : decode cX4_slip 97 = .ok (.istore 11, 2) := by decide +kernel
theorem dX4_slip_99 : decode cX4_slip 99 = .ok (.iload 11, 2) := by decide +kernel
theorem dX4_slip_101 : decode cX4_slip 101 = .ok (.iconst 1, 1) := by decide +kernel
theorem dX4_slip_102 : decode cX4_slip 102 = .ok (.iload_n 2, 1) := by decide +kernel
theorem dX4_slip_103 : decode cX4_slip 103 = .ok (.ishl, 1) := by decide +kernel
theorem dX4_slip_104 : decode cX4_slip 104 = .ok (.if_icmp .ge 41, 3) := by decide +kernel
theorem dX4_slip_107 : decode cX4_slip 107 = .ok (.aload_n 0, 1) := by decide +kernel
theorem dX4_slip_108 : decode cX4_slip 108 = .ok (.iload_n 1, 1) := by decide +kernel
theorem dX4_slip_109 : decode cX4_slip 109 = .ok (.iload_n 2, 1) := by decide +kernel
theorem dX4_slip_110 : decode cX4_slip 110 = .ok (.iload 11, 2) := by decide +kernel
theorem dX4_slip_112 : decode cX4_slip 112 = .ok (.invokevirtual 198, 3) := by decide +kernel
theorem dX4_slip_115 : decode cX4_slip 115 = .ok (.iload 4, 2) := by decide +kernel
theorem dX4_slip_117 : decode cX4_slip 117 = .ok (.if_icmp .lt 22, 3) := by decide +kernel
theorem dX4_slip_120 : decode cX4_slip 120 = .ok (.lload 9, 2) := by decide +kernel
theorem dX4_slip_122 : decode cX4_slip 122 = .ok (.iload_n 3, 1) := by decide +kernel
theorem dX4_slip_123 : decode cX4_slip 123 = .ok (.iconst 1, 1) := by decide +kernel
theorem dX4_slip_124 : decode cX4_slip 124 = .ok (.isub, 1) := by decide +kernel
theorem dX4_slip_125 : decode cX4_slip 125 = .ok (.i2l, 1) := by decide +kernel
theorem dX4_slip_126 : decode cX4_slip 126 = .ok (.iload_n 2, 1) := by decide +kernel
theorem dX4_slip_127 : decode cX4_slip 127 = .ok (.iload 11, 2) := by decide +kernel
theorem dX4_slip_129 : decode cX4_slip 129 = .ok (.invokestatic 162, 3) := by decide +kernel
theorem dX4_slip_132 : decode cX4_slip 132 = .ok (.isub, 1) := by decide +kernel
theorem dX4_slip_133 : decode cX4_slip 133 = .ok (.invokestatic 201, 3) := by decide +kernel
theorem dX4_slip_136 : decode cX4_slip 136 = .ok (.ladd, 1) := by decide +kernel
theorem dX4_slip_137 : decode cX4_slip 137 = .ok (.lstore 9, 2) := by decide +kernel
theorem dX4_slip_139 : decode cX4_slip 139 = .ok (.iinc 11 1, 3) := by decide +kernel
theorem dX4_slip_142 : decode cX4_slip 142 = .ok (.goto (-43), 3) := by decide +kernel
theorem dX4_slip_145 : decode cX4_slip 145 = .ok (.lload 9, 2) := by decide +kernel
theorem dX4_slip_147 : decode cX4_slip 147 = .ok (.iload_n 3, 1) := by decide +kernel
theorem dX4_slip_148 : decode cX4_slip 148 = .ok (.i2l, 1) := by decide +kernel
theorem dX4_slip_149 : decode cX4_slip 149 = .ok (.iload_n 2, 1) := by decide +kernel
theorem dX4_slip_150 : decode cX4_slip 150 = .ok (.invokestatic 201, 3) := by decide +kernel
theorem dX4_slip_153 : decode cX4_slip 153 = .ok (.iload 5, 2) := by decide +kernel
theorem dX4_slip_155 : decode cX4_slip 155 = .ok (.invokestatic 205, 3) := by decide +kernel
theorem dX4_slip_158 : decode cX4_slip 158 = .ok (.lreturn, 1) := by decide +kernel
set_option maxRecDepth 20000 in
theorem ggX4_mean_X4_other : GoodIn wsX4_mean wsX4_other := goodIn_r _ [7] (by decide +kernel) (by decide +kernel)
set_option maxRecDepth 20000 in
theorem gX4_mean_X4_other : GoodIn wsX4_mean (va_wsS RX4 72 yX4_other wsX4_other) := goodIn_app (goodIn_of _ (by decide +kernel)) ggX4_mean_X4_other
set_option maxRecDepth 20000 in
theorem ggX4_mean_X4_refused : GoodIn wsX4_mean wsX4_refused := goodIn_r _ [11, 12, 29, 30, 31, 32, 33, 34, 35, 36, 37, 38, 39] (by decide +kernel) (by decide +kernel)
set_option maxRecDepth 20000 in
theorem gX4_mean_X4_refused : GoodIn wsX4_mean (wsV RX4 57 RX4 yX4_refused wsX4_refused) := goodIn_app (goodIn_of _ (by decide +kernel)) ggX4_mean_X4_refused
set_option maxRecDepth 20000 in
theorem ggX4_mean_X1_allHas : GoodIn wsX4_mean wsX1_allHas := goodIn_r _ [17, 18, 19, 20, 21, 22, 16, 23, 24, 25, 40, 41, 42, 43, 44, 45, 46, 47, 48, 49, 50, 51, 52, 53] (by decide +kernel) (by decide +kernel)
set_option maxRecDepth 20000 in
theorem gX4_mean_X1_allHas : GoodIn wsX4_mean (wsV RX4 209 RX1 yX1_allHas wsX1_allHas) := goodIn_app (goodIn_of _ (by decide +kernel)) ggX4_mean_X1_allHas
set_option maxRecDepth 20000 in
theorem ggX4_mean_X4_leastTerms : GoodIn wsX4_mean wsX4_leastTerms := goodIn_r _ [28] (by decide +kernel) (by decide +kernel)
set_option maxRecDepth 20000 in
theorem gX4_mean_X4_leastTerms : GoodIn wsX4_mean (va_wsS RX4 205 yX4_leastTerms wsX4_leastTerms) := goodIn_app (goodIn_of _ (by decide +kernel)) ggX4_mean_X4_leastTerms
theorem dX4_mean_0 : decode cX4_mean 0 = .ok (.iload_n 1, 1) := by decide +kernel
theorem dX4_mean_1 : decode cX4_mean 1 = .ok (.iconst 1, 1) := by decide +kernel
theorem dX4_mean_2 : decode cX4_mean 2 = .ok (.invokestatic 72, 3) := by decide +kernel
theorem dX4_mean_5 : decode cX4_mean 5 = .ok (.istore_n 2, 1) := by decide +kernel
theorem dX4_mean_6 : decode cX4_mean 6 = .ok (.iload_n 2, 1) := by decide +kernel
theorem dX4_mean_7 : decode cX4_mean 7 = .ok (.ifCond .eq 14, 3) := by decide +kernel
theorem dX4_mean_10 : decode cX4_mean 10 = .ok (.ldc2_w 196, 3) := by decide +kernel
theorem dX4_mean_13 : decode cX4_mean 13 = .ok (.aload_n 0, 1) := by decide +kernel
theorem dX4_mean_14 : decode cX4_mean 14 = .ok (.iload_n 2, 1) := by decide +kernel
theorem dX4_mean_15 : decode cX4_mean 15 = .ok (.invokevirtual 57, 3) := by decide +kernel
theorem dX4_mean_18 : decode cX4_mean 18 = .ok (.i2l, 1) := by decide +kernel
theorem dX4_mean_19 : decode cX4_mean 19 = .ok (.lsub, 1) := by decide +kernel
theorem dX4_mean_20 : decode cX4_mean 20 = .ok (.lreturn, 1) := by decide +kernel
theorem dX4_mean_21 : decode cX4_mean 21 = .ok (.aload_n 0, 1) := by decide +kernel
theorem dX4_mean_22 : decode cX4_mean 22 = .ok (.getfield 10, 3) := by decide +kernel
theorem dX4_mean_25 : decode cX4_mean 25 = .ok (.invokevirtual 209, 3) := by decide +kernel
theorem dX4_mean_28 : decode cX4_mean 28 = .ok (.i2l, 1) := by decide +kernel
theorem dX4_mean_29 : decode cX4_mean 29 = .ok (.aload_n 0, 1) := by decide +kernel
theorem dX4_mean_30 : decode cX4_mean 30 = .ok (.getfield 10, 3) := by decide +kernel
theorem dX4_mean_33 : decode cX4_mean 33 = .ok (.getfield 159, 3) := by decide +kernel
theorem dX4_mean_36 : decode cX4_mean 36 = .ok (.i2l, 1) := by decide +kernel
theorem dX4_mean_37 : decode cX4_mean 37 = .ok (.iload_n 1, 1) := by decide +kernel
theorem dX4_mean_38 : decode cX4_mean 38 = .ok (.invokestatic 205, 3) := by decide +kernel
theorem dX4_mean_41 : decode cX4_mean 41 = .ok (.lreturn, 1) := by decide +kernel
set_option maxRecDepth 20000 in
theorem ggX4_whatIs_X4_unknown : GoodIn wsX4_whatIs wsX4_unknown := goodIn_r _ [9, 2, 10, 11, 12, 13, 14, 15, 83, 84, 85, 86, 87, 88, 89, 90, 91, 92, 93, 102, 103, 104, 105, 106, 107] (by decide +kernel) (by decide +kernel)
set_option maxRecDepth 20000 in
theorem gX4_whatIs_X4_unknown : GoodIn wsX4_whatIs (wsV RX4 69 RX4 yX4_unknown wsX4_unknown) := goodIn_app (goodIn_of _ (by decide +kernel)) ggX4_whatIs_X4_unknown
set_option maxRecDepth 20000 in
theorem ggX4_whatIs_X4_other : GoodIn wsX4_whatIs wsX4_other := goodIn_r _ [18] (by decide +kernel) (by decide +kernel)
set_option maxRecDepth 20000 in
theorem gX4_whatIs_X4_other : GoodIn wsX4_whatIs (va_wsS RX4 72 yX4_other wsX4_other) := goodIn_app (goodIn_of _ (by decide +kernel)) ggX4_whatIs_X4_other
set_option maxRecDepth 20000 in
theorem ggX4_whatIs_X4_firstOf : GoodIn wsX4_whatIs wsX4_firstOf := goodIn_r _ [21] (by decide +kernel) (by decide +kernel)
set_option maxRecDepth 20000 in
theorem gX4_whatIs_X4_firstOf : GoodIn wsX4_whatIs (va_wsS RX4 76 yX4_firstOf wsX4_firstOf) := goodIn_app (goodIn_of _ (by decide +kernel)) ggX4_whatIs_X4_firstOf
set_option maxRecDepth 20000 in
theorem ggX4_whatIs_X4_refused : GoodIn wsX4_whatIs wsX4_refused := goodIn_r _ [25, 26, 83, 84, 85, 86, 87, 88, 89, 90, 91, 92, 93] (by decide +kernel) (by decide +kernel)
set_option maxRecDepth 20000 in
theorem gX4_whatIs_X4_refused : GoodIn wsX4_whatIs (wsV RX4 57 RX4 yX4_refused wsX4_refused) := goodIn_app (goodIn_of _ (by decide +kernel)) ggX4_whatIs_X4_refused
set_option maxRecDepth 20000 in
theorem ggX4_whatIs_J0_length_8abf5 : GoodIn wsX4_whatIs wsJ0_length_8abf5 := goodIn_r _ [31, 32, 33, 34, 35, 30, 36, 37, 38] (by decide +kernel) (by decide +kernel)
set_option maxRecDepth 20000 in
theorem gX4_whatIs_J0_length_8abf5 : GoodIn wsX4_whatIs (wsV RX4 214 RJ0 yJ0_length_8abf5 wsJ0_length_8abf5) := goodIn_app (goodIn_of _ (by decide +kernel)) ggX4_whatIs_J0_length_8abf5
set_option maxRecDepth 20000 in
theorem ggX4_whatIs_X1_at : GoodIn wsX4_whatIs wsX1_at := goodIn_r _ [42, 43, 44, 102, 103, 104, 105, 106, 107] (by decide +kernel) (by decide +kernel)
set_option maxRecDepth 20000 in
theorem gX4_whatIs_X1_at : GoodIn wsX4_whatIs (wsV RX4 79 RX1 yX1_at wsX1_at) := goodIn_app (goodIn_of _ (by decide +kernel)) ggX4_whatIs_X1_at
set_option maxRecDepth 20000 in
theorem ggX4_whatIs_X2_takeFrom : GoodIn wsX4_whatIs wsX2_takeFrom := goodIn_r _ [49, 50, 51, 52, 53, 54, 55, 56, 57, 94, 95, 96, 97, 98, 99, 100, 101] (by decide +kernel) (by decide +kernel)
set_option maxRecDepth 20000 in
theorem gX4_whatIs_X2_takeFrom : GoodIn wsX4_whatIs (wsV RX4 147 RX2 yX2_takeFrom wsX2_takeFrom) := goodIn_app (goodIn_of _ (by decide +kernel)) ggX4_whatIs_X2_takeFrom
set_option maxRecDepth 20000 in
theorem ggX4_whatIs_X4_rowIsOfTrial : GoodIn wsX4_whatIs wsX4_rowIsOfTrial := goodIn_r _ [61, 62, 63, 1, 64, 65, 66, 67, 48, 68, 53, 50, 51, 52, 56, 54, 69, 70, 71, 72, 57, 55, 73, 74, 75, 76, 77, 78, 79, 80, 81, 82, 83, 84, 85, 86, 87, 88, 89, 90, 91, 92, 93, 94, 95, 96, 97, 98, 99, 100, 101] (by decide +kernel) (by decide +kernel)
set_option maxRecDepth 20000 in
theorem gX4_whatIs_X4_rowIsOfTrial : GoodIn wsX4_whatIs (wsV RX4 219 RX4 yX4_rowIsOfTrial wsX4_rowIsOfTrial) := goodIn_app (goodIn_of _ (by decide +kernel)) ggX4_whatIs_X4_rowIsOfTrial
theorem dX4_whatIs_0 : decode cX4_whatIs 0 = .ok (.aload_n 0, 1) := by decide +kernel
theorem dX4_whatIs_1 : decode cX4_whatIs 1 = .ok (.iload_n 1, 1) := by decide +kernel
theorem dX4_whatIs_2 : decode cX4_whatIs 2 = .ok (.invokevirtual 69, 3) := by decide +kernel
theorem dX4_whatIs_5 : decode cX4_whatIs 5 = .ok (.iload_n 2, 1) := by decide +kernel
theorem dX4_whatIs_6 : decode cX4_whatIs 6 = .ok (.iconst 1, 1) := by decide +kernel
theorem dX4_whatIs_7 : decode cX4_whatIs 7 = .ok (.invokestatic 72, 3) := by decide +kernel
theorem dX4_whatIs_10 : decode cX4_whatIs 10 = .ok (.iconst 0, 1) := by decide +kernel
theorem dX4_whatIs_11 : decode cX4_whatIs 11 = .ok (.invokestatic 76, 3) := by decide +kernel
theorem dX4_whatIs_14 : decode cX4_whatIs 14 = .ok (.istore_n 3, 1) := by decide +kernel
theorem dX4_whatIs_15 : decode cX4_whatIs 15 = .ok (.iload_n 3, 1) := by decide +kernel
theorem dX4_whatIs_16 : decode cX4_whatIs 16 = .ok (.ifCond .eq 9, 3) := by decide +kernel
theorem dX4_whatIs_19 : decode cX4_whatIs 19 = .ok (.aload_n 0, 1) := by decide +kernel
theorem dX4_whatIs_20 : decode cX4_whatIs 20 = .ok (.iload_n 3, 1) := by decide +kernel
theorem dX4_whatIs_21 : decode cX4_whatIs 21 = .ok (.invokevirtual 57, 3) := by decide +kernel
theorem dX4_whatIs_24 : decode cX4_whatIs 24 = .ok (.ireturn, 1) := by decide +kernel
theorem dX4_whatIs_25 : decode cX4_whatIs 25 = .ok (.iconst 0, 1) := by decide +kernel
theorem dX4_whatIs_26 : decode cX4_whatIs 26 = .ok (.istore 4, 2) := by decide +kernel
theorem dX4_whatIs_28 : decode cX4_whatIs 28 = .ok (.iload_n 2, 1) := by decide +kernel
theorem dX4_whatIs_29 : decode cX4_whatIs 29 = .ok (.ifCond .ne 11, 3) := by decide +kernel
theorem dX4_whatIs_32 : decode cX4_whatIs 32 = .ok (.ldc 212, 2) := by decide +kernel
theorem dX4_whatIs_34 : decode cX4_whatIs 34 = .ok (.invokevirtual 214, 3) := by decide +kernel
theorem dX4_whatIs_37 : decode cX4_whatIs 37 = .ok (.goto 5, 3) := by decide +kernel
theorem dX4_whatIs_40 : decode cX4_whatIs 40 = .ok (.bipush 10, 2) := by decide +kernel
theorem dX4_whatIs_42 : decode cX4_whatIs 42 = .ok (.istore 5, 2) := by decide +kernel
theorem dX4_whatIs_44 : decode cX4_whatIs 44 = .ok (.iconst 0, 1) := by decide +kernel
theorem dX4_whatIs_45 : decode cX4_whatIs 45 = .ok (.istore 6, 2) := by decide +kernel
theorem dX4_whatIs_47 : decode cX4_whatIs 47 = .ok (.iload 6, 2) := by decide +kernel
theorem dX4_whatIs_49 : decode cX4_whatIs 49 = .ok (.iload 5, 2) := by decide +kernel
theorem dX4_whatIs_51 : decode cX4_whatIs 51 = .ok (.if_icmp .ge 65, 3) := by decide +kernel
theorem dX4_whatIs_54 : decode cX4_whatIs 54 = .ok (.aload_n 0, 1) := by decide +kernel
theorem dX4_whatIs_55 : decode cX4_whatIs 55 = .ok (.getfield 25, 3) := by decide +kernel
theorem dX4_whatIs_58 : decode cX4_whatIs 58 = .ok (.aload_n 0, 1) := by decide +kernel
theorem dX4_whatIs_59 : decode cX4_whatIs 59 = .ok (.getfield 10, 3) := by decide +kernel
theorem dX4_whatIs_62 : decode cX4_whatIs 62 = .ok (.iload_n 1, 1) := by decide +kernel
theorem dX4_whatIs_63 : decode cX4_whatIs 63 = .ok (.invokevirtual 79, 3) := by decide +kernel
theorem dX4_whatIs_66 : decode cX4_whatIs 66 = .ok (.invokevirtual 147, 3) := by decide +kernel
theorem dX4_whatIs_69 : decode cX4_whatIs 69 = .ok (.iload_n 2, 1) := by decide +kernel
theorem dX4_whatIs_70 : decode cX4_whatIs 70 = .ok (.ifCond .ne 15, 3) := by decide +kernel
theorem dX4_whatIs_73 : decode cX4_whatIs 73 = .ok (.aload_n 0, 1) := by decide +kernel
theorem dX4_whatIs_74 : decode cX4_whatIs 74 = .ok (.getfield 25, 3) := by decide +kernel
theorem dX4_whatIs_77 : decode cX4_whatIs 77 = .ok (.iload 6, 2) := by decide +kernel
theorem dX4_whatIs_79 : decode cX4_whatIs 79 = .ok (.putfield 83, 3) := by decide +kernel
theorem dX4_whatIs_82 : decode cX4_whatIs 82 = .ok (.goto 12, 3) := by decide +kernel
theorem dX4_whatIs_85 : decode cX4_whatIs 85 = .ok (.aload_n 0, 1) := by decide +kernel
theorem dX4_whatIs_86 : decode cX4_whatIs 86 = .ok (.getfield 25, 3) := by decide +kernel
theorem dX4_whatIs_89 : decode cX4_whatIs 89 = .ok (.iload 6, 2) := by decide +kernel
theorem dX4_whatIs_91 : decode cX4_whatIs 91 = .ok (.putfield 86, 3) := by decide +kernel
theorem dX4_whatIs_94 : decode cX4_whatIs 94 = .ok (.aload_n 0, 1) := by decide +kernel
theorem dX4_whatIs_95 : decode cX4_whatIs 95 = .ok (.invokevirtual 219, 3) := by decide +kernel
theorem dX4_whatIs_98 : decode cX4_whatIs 98 = .ok (.ifCond .eq 12, 3) := by decide +kernel
theorem dX4_whatIs_101 : decode cX4_whatIs 101 = .ok (.iload 4, 2) := by decide +kernel
theorem dX4_whatIs_103 : decode cX4_whatIs 103 = .ok (.iconst 1, 1) := by decide +kernel
theorem dX4_whatIs_104 : decode cX4_whatIs 104 = .ok (.iload 6, 2) := by decide +kernel
theorem dX4_whatIs_106 : decode cX4_whatIs 106 = .ok (.ishl, 1) := by decide +kernel
theorem dX4_whatIs_107 : decode cX4_whatIs 107 = .ok (.ior, 1) := by decide +kernel
theorem dX4_whatIs_108 : decode cX4_whatIs 108 = .ok (.istore 4, 2) := by decide +kernel
theorem dX4_whatIs_110 : decode cX4_whatIs 110 = .ok (.iinc 6 1, 3) := by decide +kernel
theorem dX4_whatIs_113 : decode cX4_whatIs 113 = .ok (.goto (-66), 3) := by decide +kernel
theorem dX4_whatIs_116 : decode cX4_whatIs 116 = .ok (.iload 4, 2) := by decide +kernel
theorem dX4_whatIs_118 : decode cX4_whatIs 118 = .ok (.ireturn, 1) := by decide +kernel
set_option maxRecDepth 20000 in
theorem ggX4_row_X4_outside : GoodIn wsX4_row wsX4_outside := goodIn_r _ [6] (by decide +kernel) (by decide +kernel)
set_option maxRecDepth 20000 in
theorem gX4_row_X4_outside : GoodIn wsX4_row (va_wsS RX4 49 yX4_outside wsX4_outside) := goodIn_app (goodIn_of _ (by decide +kernel)) ggX4_row_X4_outside
set_option maxRecDepth 20000 in
theorem ggX4_row_X4_refused : GoodIn wsX4_row wsX4_refused := goodIn_r _ [10, 11, 12, 13, 14, 15, 16, 17, 18, 19, 20, 21, 22] (by decide +kernel) (by decide +kernel)
set_option maxRecDepth 20000 in
theorem gX4_row_X4_refused : GoodIn wsX4_row (wsV RX4 57 RX4 yX4_refused wsX4_refused) := goodIn_app (goodIn_of _ (by decide +kernel)) ggX4_row_X4_refused
theorem dX4_row_0 : decode cX4_row 0 = .ok (.iload_n 1, 1) := by decide +kernel
theorem dX4_row_1 : decode cX4_row 1 = .ok (.iconst 0, 1) := by decide +kernel
theorem dX4_row_2 : decode cX4_row 2 = .ok (.bipush 99, 2) := by decide +kernel
theorem dX4_row_4 : decode cX4_row 4 = .ok (.invokestatic 49, 3) := by decide +kernel
theorem dX4_row_7 : decode cX4_row 7 = .ok (.istore_n 2, 1) := by decide +kernel
theorem dX4_row_8 : decode cX4_row 8 = .ok (.iload_n 2, 1) := by decide +kernel
theorem dX4_row_9 : decode cX4_row 9 = .ok (.ifCond .ne 18, 3) := by decide +kernel
theorem dX4_row_12 : decode cX4_row 12 = .ok (.aload_n 0, 1) := by decide +kernel
theorem dX4_row_13 : decode cX4_row 13 = .ok (.getfield 223, 3) := by decide +kernel
theorem dX4_row_16 : decode cX4_row 16 = .ok (.aload_n 0, 1) := by decide +kernel
theorem dX4_row_17 : decode cX4_row 17 = .ok (.getfield 36, 3) := by decide +kernel
theorem dX4_row_20 : decode cX4_row 20 = .ok (.arraylength, 1) := by decide +kernel
theorem dX4_row_21 : decode cX4_row 21 = .ok (.if_icmp .lt 6, 3) := by decide +kernel
theorem dX4_row_24 : decode cX4_row 24 = .ok (.bipush (-6), 2) := by decide +kernel
theorem dX4_row_26 : decode cX4_row 26 = .ok (.istore_n 2, 1) := by decide +kernel
theorem dX4_row_27 : decode cX4_row 27 = .ok (.iload_n 2, 1) := by decide +kernel
theorem dX4_row_28 : decode cX4_row 28 = .ok (.ifCond .eq 9, 3) := by decide +kernel
theorem dX4_row_31 : decode cX4_row 31 = .ok (.aload_n 0, 1) := by decide +kernel
theorem dX4_row_32 : decode cX4_row 32 = .ok (.iload_n 2, 1) := by decide +kernel
theorem dX4_row_33 : decode cX4_row 33 = .ok (.invokevirtual 57, 3) := by decide +kernel
theorem dX4_row_36 : decode cX4_row 36 = .ok (.ireturn, 1) := by decide +kernel
theorem dX4_row_37 : decode cX4_row 37 = .ok (.aload_n 0, 1) := by decide +kernel
theorem dX4_row_38 : decode cX4_row 38 = .ok (.getfield 223, 3) := by decide +kernel
theorem dX4_row_41 : decode cX4_row 41 = .ok (.ifCond .lt 32, 3) := by decide +kernel
theorem dX4_row_44 : decode cX4_row 44 = .ok (.aload_n 0, 1) := by decide +kernel
theorem dX4_row_45 : decode cX4_row 45 = .ok (.getfield 223, 3) := by decide +kernel
theorem dX4_row_48 : decode cX4_row 48 = .ok (.aload_n 0, 1) := by decide +kernel
theorem dX4_row_49 : decode cX4_row 49 = .ok (.getfield 36, 3) := by decide +kernel
theorem dX4_row_52 : decode cX4_row 52 = .ok (.arraylength, 1) := by decide +kernel
theorem dX4_row_53 : decode cX4_row 53 = .ok (.if_icmp .ge 20, 3) := by decide +kernel
theorem dX4_row_56 : decode cX4_row 56 = .ok (.aload_n 0, 1) := by decide +kernel
theorem dX4_row_57 : decode cX4_row 57 = .ok (.getfield 36, 3) := by decide +kernel
theorem dX4_row_60 : decode cX4_row 60 = .ok (.aload_n 0, 1) := by decide +kernel
theorem dX4_row_61 : decode cX4_row 61 = .ok (.dup, 1) := by decide +kernel
theorem dX4_row_62 : decode cX4_row 62 = .ok (.getfield 223, 3) := by decide +kernel
theorem dX4_row_65 : decode cX4_row 65 = .ok (.dup_x1, 1) := by decide +kernel
theorem dX4_row_66 : decode cX4_row 66 = .ok (.iconst 1, 1) := by decide +kernel
theorem dX4_row_67 : decode cX4_row 67 = .ok (.iadd, 1) := by decide +kernel
theorem dX4_row_68 : decode cX4_row 68 = .ok (.putfield 223, 3) := by decide +kernel
theorem dX4_row_71 : decode cX4_row 71 = .ok (.iload_n 1, 1) := by decide +kernel
theorem dX4_row_72 : decode cX4_row 72 = .ok (.iastore, 1) := by decide +kernel
theorem dX4_row_73 : decode cX4_row 73 = .ok (.aload_n 0, 1) := by decide +kernel
theorem dX4_row_74 : decode cX4_row 74 = .ok (.getfield 223, 3) := by decide +kernel
theorem dX4_row_77 : decode cX4_row 77 = .ok (.ireturn, 1) := by decide +kernel
set_option maxRecDepth 20000 in
theorem ggX4_judge_X1_knows : GoodIn wsX4_judge wsX1_knows := goodIn_r _ [9, 10, 36, 37, 38, 39, 40, 41] (by decide +kernel) (by decide +kernel)
set_option maxRecDepth 20000 in
theorem gX4_judge_X1_knows : GoodIn wsX4_judge (wsV RX4 226 RX1 yX1_knows wsX1_knows) := goodIn_app (goodIn_of _ (by decide +kernel)) ggX4_judge_X1_knows
set_option maxRecDepth 20000 in
theorem ggX4_judge_X1_at : GoodIn wsX4_judge wsX1_at := goodIn_r _ [14, 15, 16, 36, 37, 38, 39, 40, 41] (by decide +kernel) (by decide +kernel)
set_option maxRecDepth 20000 in
theorem gX4_judge_X1_at : GoodIn wsX4_judge (wsV RX4 79 RX1 yX1_at wsX1_at) := goodIn_app (goodIn_of _ (by decide +kernel)) ggX4_judge_X1_at
theorem dX4_judge_0 : decode cX4_judge 0 = .ok (.bipush (-9), 2) := by decide +kernel
theorem dX4_judge_2 : decode cX4_judge 2 = .ok (.istore_n 1, 1) := by decide +kernel
theorem dX4_judge_3 : decode cX4_judge 3 = .ok (.iconst 0, 1) := by decide +kernel
theorem dX4_judge_4 : decode cX4_judge 4 = .ok (.istore_n 2, 1) := by decide +kernel
theorem dX4_judge_5 : decode cX4_judge 5 = .ok (.iload_n 2, 1) := by decide +kernel
theorem dX4_judge_6 : decode cX4_judge 6 = .ok (.aload_n 0, 1) := by decide +kernel
theorem dX4_judge_7 : decode cX4_judge 7 = .ok (.getfield 223, 3) := by decide +kernel
theorem dX4_judge_10 : decode cX4_judge 10 = .ok (.if_icmp .ge 55, 3) := by decide +kernel
theorem dX4_judge_13 : decode cX4_judge 13 = .ok (.iload_n 2, 1) := by decide +kernel
theorem dX4_judge_14 : decode cX4_judge 14 = .ok (.aload_n 0, 1) := by decide +kernel
theorem dX4_judge_15 : decode cX4_judge 15 = .ok (.getfield 36, 3) := by decide +kernel
theorem dX4_judge_18 : decode cX4_judge 18 = .ok (.arraylength, 1) := by decide +kernel
theorem dX4_judge_19 : decode cX4_judge 19 = .ok (.if_icmp .ge 46, 3) := by decide +kernel
theorem dX4_judge_22 : decode cX4_judge 22 = .ok (.iload_n 1, 1) := by decide +kernel
theorem dX4_judge_23 : decode cX4_judge 23 = .ok (.ifCond .ge 42, 3) := by decide +kernel
theorem dX4_judge_26 : decode cX4_judge 26 = .ok (.aload_n 0, 1) := by decide +kernel
theorem dX4_judge_27 : decode cX4_judge 27 = .ok (.getfield 10, 3) := by decide +kernel
theorem dX4_judge_30 : decode cX4_judge 30 = .ok (.iload_n 2, 1) := by decide +kernel
theorem dX4_judge_31 : decode cX4_judge 31 = .ok (.invokevirtual 226, 3) := by decide +kernel
theorem dX4_judge_34 : decode cX4_judge 34 = .ok (.ifCond .eq 23, 3) := by decide +kernel
theorem dX4_judge_37 : decode cX4_judge 37 = .ok (.aload_n 0, 1) := by decide +kernel
theorem dX4_judge_38 : decode cX4_judge 38 = .ok (.getfield 10, 3) := by decide +kernel
theorem dX4_judge_41 : decode cX4_judge 41 = .ok (.iload_n 2, 1) := by decide +kernel
theorem dX4_judge_42 : decode cX4_judge 42 = .ok (.invokevirtual 79, 3) := by decide +kernel
theorem dX4_judge_45 : decode cX4_judge 45 = .ok (.getfield 92, 3) := by decide +kernel
theorem dX4_judge_48 : decode cX4_judge 48 = .ok (.aload_n 0, 1) := by decide +kernel
theorem dX4_judge_49 : decode cX4_judge 49 = .ok (.getfield 36, 3) := by decide +kernel
theorem dX4_judge_52 : decode cX4_judge 52 = .ok (.iload_n 2, 1) := by decide +kernel
theorem dX4_judge_53 : decode cX4_judge 53 = .ok (.iaload, 1) := by decide +kernel
theorem dX4_judge_54 : decode cX4_judge 54 = .ok (.if_icmp .eq 5, 3) := by decide +kernel
theorem dX4_judge_57 : decode cX4_judge 57 = .ok (.iload_n 2, 1) := by decide +kernel
theorem dX4_judge_58 : decode cX4_judge 58 = .ok (.istore_n 1, 1) := by decide +kernel
theorem dX4_judge_59 : decode cX4_judge 59 = .ok (.iinc 2 1, 3) := by decide +kernel
theorem dX4_judge_62 : decode cX4_judge 62 = .ok (.goto (-57), 3) := by decide +kernel
theorem dX4_judge_65 : decode cX4_judge 65 = .ok (.aload_n 0, 1) := by decide +kernel
theorem dX4_judge_66 : decode cX4_judge 66 = .ok (.iconst 0, 1) := by decide +kernel
theorem dX4_judge_67 : decode cX4_judge 67 = .ok (.putfield 223, 3) := by decide +kernel
theorem dX4_judge_70 : decode cX4_judge 70 = .ok (.iload_n 1, 1) := by decide +kernel
theorem dX4_judge_71 : decode cX4_judge 71 = .ok (.ireturn, 1) := by decide +kernel
theorem dX4_clear_0 : decode cX4_clear 0 = .ok (.aload_n 0, 1) := by decide +kernel
theorem dX4_clear_1 : decode cX4_clear 1 = .ok (.getfield 223, 3) := by decide +kernel
theorem dX4_clear_4 : decode cX4_clear 4 = .ok (.istore_n 1, 1) := by decide +kernel
theorem dX4_clear_5 : decode cX4_clear 5 = .ok (.aload_n 0, 1) := by decide +kernel
theorem dX4_clear_6 : decode cX4_clear 6 = .ok (.iconst 0, 1) := by decide +kernel
theorem dX4_clear_7 : decode cX4_clear 7 = .ok (.putfield 223, 3) := by decide +kernel
theorem dX4_clear_10 : decode cX4_clear 10 = .ok (.iload_n 1, 1) := by decide +kernel
theorem dX4_clear_11 : decode cX4_clear 11 = .ok (.ireturn, 1) := by decide +kernel
set_option maxRecDepth 20000 in
theorem ggX4_lots_X4_outside : GoodIn wsX4_lots wsX4_outside := goodIn_r _ [11] (by decide +kernel) (by decide +kernel)
set_option maxRecDepth 20000 in
theorem gX4_lots_X4_outside : GoodIn wsX4_lots (va_wsS RX4 49 yX4_outside wsX4_outside) := goodIn_app (goodIn_of _ (by decide +kernel)) ggX4_lots_X4_outside
set_option maxRecDepth 20000 in
theorem ggX4_lots_X4_other : GoodIn wsX4_lots wsX4_other := goodIn_r _ [14] (by decide +kernel) (by decide +kernel)
set_option maxRecDepth 20000 in
theorem gX4_lots_X4_other : GoodIn wsX4_lots (va_wsS RX4 72 yX4_other wsX4_other) := goodIn_app (goodIn_of _ (by decide +kernel)) ggX4_lots_X4_other
set_option maxRecDepth 20000 in
theorem ggX4_lots_X4_firstOf : GoodIn wsX4_lots wsX4_firstOf := goodIn_r _ [17] (by decide +kernel) (by decide +kernel)
set_option maxRecDepth 20000 in
theorem gX4_lots_X4_firstOf : GoodIn wsX4_lots (va_wsS RX4 76 yX4_firstOf wsX4_firstOf) := goodIn_app (goodIn_of _ (by decide +kernel)) ggX4_lots_X4_firstOf
set_option maxRecDepth 20000 in
theorem ggX4_lots_X4_refused : GoodIn wsX4_lots wsX4_refused := goodIn_r _ [21, 22, 89, 90, 91, 92, 93, 94, 95, 96, 97, 98, 99] (by decide +kernel) (by decide +kernel)
set_option maxRecDepth 20000 in
theorem gX4_lots_X4_refused : GoodIn wsX4_lots (wsV RX4 57 RX4 yX4_refused wsX4_refused) := goodIn_app (goodIn_of _ (by decide +kernel)) ggX4_lots_X4_refused
set_option maxRecDepth 20000 in
theorem ggX4_lots_X1_takeFrom : GoodIn wsX4_lots wsX1_takeFrom := goodIn_r _ [27, 28, 29, 30, 31, 32, 33, 34, 26, 35, 36, 37, 38, 39, 40, 41, 42, 43, 44, 45, 46, 47, 48, 49, 50, 100, 101, 102, 103, 104, 105, 106, 107, 108, 109, 110, 111, 112, 113] (by decide +kernel) (by decide +kernel)
set_option maxRecDepth 20000 in
theorem gX4_lots_X1_takeFrom : GoodIn wsX4_lots (wsV RX4 134 RX1 yX1_takeFrom wsX1_takeFrom) := goodIn_app (goodIn_of _ (by decide +kernel)) ggX4_lots_X1_takeFrom
set_option maxRecDepth 20000 in
theorem ggX4_lots_X1_at : GoodIn wsX4_lots wsX1_at := goodIn_r _ [35, 36, 37, 100, 101, 102, 103, 104, 105] (by decide +kernel) (by decide +kernel)
set_option maxRecDepth 20000 in
theorem gX4_lots_X1_at : GoodIn wsX4_lots (wsV RX4 79 RX1 yX1_at wsX1_at) := goodIn_app (goodIn_of _ (by decide +kernel)) ggX4_lots_X1_at
set_option maxRecDepth 20000 in
theorem ggX4_lots_X1_daysGoBy : GoodIn wsX4_lots wsX1_daysGoBy := goodIn_r _ [55, 31, 28, 32, 33, 34, 26, 35, 36, 37, 56, 57, 58, 41, 59, 46, 43, 44, 45, 49, 47, 60, 61, 62, 63, 50, 48, 64, 65, 66, 67, 68, 69, 70, 71, 72, 73, 74, 75, 76, 77, 30, 78, 100, 101, 102, 103, 104, 105, 106, 107, 108, 109, 110, 111, 112, 113] (by decide +kernel) (by decide +kernel)
set_option maxRecDepth 20000 in
theorem gX4_lots_X1_daysGoBy : GoodIn wsX4_lots (wsV RX4 127 RX1 yX1_daysGoBy wsX1_daysGoBy) := goodIn_app (goodIn_of _ (by decide +kernel)) ggX4_lots_X1_daysGoBy
set_option maxRecDepth 20000 in
theorem ggX4_lots_X1_allThrough : GoodIn wsX4_lots wsX1_allThrough := goodIn_r _ [82, 28, 83, 32, 33, 34, 26, 35, 36, 37, 100, 101, 102, 103, 104, 105, 106, 107, 108, 109, 110, 111, 112, 113] (by decide +kernel) (by decide +kernel)
set_option maxRecDepth 20000 in
theorem gX4_lots_X1_allThrough : GoodIn wsX4_lots (wsV RX4 124 RX1 yX1_allThrough wsX1_allThrough) := goodIn_app (goodIn_of _ (by decide +kernel)) ggX4_lots_X1_allThrough
set_option maxRecDepth 20000 in
theorem ggX4_lots_X1_allShort : GoodIn wsX4_lots wsX1_allShort := goodIn_r _ [87, 28, 88, 32, 33, 34, 26, 35, 36, 37, 100, 101, 102, 103, 104, 105, 106, 107, 108, 109, 110, 111, 112, 113] (by decide +kernel) (by decide +kernel)
set_option maxRecDepth 20000 in
theorem gX4_lots_X1_allShort : GoodIn wsX4_lots (wsV RX4 138 RX1 yX1_allShort wsX1_allShort) := goodIn_app (goodIn_of _ (by decide +kernel)) ggX4_lots_X1_allShort
theorem dX4_lots_0 : decode cX4_lots 0 = .ok (.iload_n 1, 1) := by decide +kernel
theorem dX4_lots_1 : decode cX4_lots 1 = .ok (.iconst 1, 1) := by decide +kernel
theorem dX4_lots_2 : decode cX4_lots 2 = .ok (.bipush 20, 2) := by decide +kernel
theorem dX4_lots_4 : decode cX4_lots 4 = .ok (.invokestatic 49, 3) := by decide +kernel
theorem dX4_lots_7 : decode cX4_lots 7 = .ok (.iload_n 3, 1) := by decide +kernel
theorem dX4_lots_8 : decode cX4_lots 8 = .ok (.iconst 1, 1) := by decide +kernel
theorem dX4_lots_9 : decode cX4_lots 9 = .ok (.invokestatic 72, 3) := by decide +kernel
theorem dX4_lots_12 : decode cX4_lots 12 = .ok (.iconst 0, 1) := by decide +kernel
theorem dX4_lots_13 : decode cX4_lots 13 = .ok (.invokestatic 76, 3) := by decide +kernel
theorem dX4_lots_16 : decode cX4_lots 16 = .ok (.istore 4, 2) := by decide +kernel
theorem dX4_lots_18 : decode cX4_lots 18 = .ok (.iload 4, 2) := by decide +kernel
theorem dX4_lots_20 : decode cX4_lots 20 = .ok (.ifCond .eq 10, 3) := by decide +kernel
theorem dX4_lots_23 : decode cX4_lots 23 = .ok (.aload_n 0, 1) := by decide +kernel
theorem dX4_lots_24 : decode cX4_lots 24 = .ok (.iload 4, 2) := by decide +kernel
theorem dX4_lots_26 : decode cX4_lots 26 = .ok (.invokevirtual 57, 3) := by decide +kernel
theorem dX4_lots_29 : decode cX4_lots 29 = .ok (.ireturn, 1) := by decide +kernel
theorem dX4_lots_30 : decode cX4_lots 30 = .ok (.iload_n 2, 1) := by decide +kernel
theorem dX4_lots_31 : decode cX4_lots 31 = .ok (.istore 5, 2) := by decide +kernel
theorem dX4_lots_33 : decode cX4_lots 33 = .ok (.iconst 0, 1) := by decide +kernel
theorem dX4_lots_34 : decode cX4_lots 34 = .ok (.istore 6, 2) := by decide +kernel
theorem dX4_lots_36 : decode cX4_lots 36 = .ok (.iconst 0, 1) := by decide +kernel
theorem dX4_lots_37 : decode cX4_lots 37 = .ok (.istore 7, 2) := by decide +kernel
theorem dX4_lots_39 : decode cX4_lots 39 = .ok (.iload 7, 2) := by decide +kernel
theorem dX4_lots_41 : decode cX4_lots 41 = .ok (.iload_n 1, 1) := by decide +kernel
theorem dX4_lots_42 : decode cX4_lots 42 = .ok (.if_icmp .ge 126, 3) := by decide +kernel
theorem dX4_lots_45 : decode cX4_lots 45 = .ok (.aload_n 0, 1) := by decide +kernel
theorem dX4_lots_46 : decode cX4_lots 46 = .ok (.getfield 16, 3) := by decide +kernel
theorem dX4_lots_49 : decode cX4_lots 49 = .ok (.aload_n 0, 1) := by decide +kernel
theorem dX4_lots_50 : decode cX4_lots 50 = .ok (.getfield 10, 3) := by decide +kernel
theorem dX4_lots_53 : decode cX4_lots 53 = .ok (.invokevirtual 134, 3) := by decide +kernel
theorem dX4_lots_56 : decode cX4_lots 56 = .ok (.iconst 0, 1) := by decide +kernel
theorem dX4_lots_57 : decode cX4_lots 57 = .ok (.istore 8, 2) := by decide +kernel
theorem dX4_lots_59 : decode cX4_lots 59 = .ok (.iload 8, 2) := by decide +kernel
theorem dX4_lots_61 : decode cX4_lots 61 = .ok (.aload_n 0, 1) := by decide +kernel
theorem dX4_lots_62 : decode cX4_lots 62 = .ok (.getfield 16, 3) := by decide +kernel
theorem dX4_lots_65 : decode cX4_lots 65 = .ok (.getfield 159, 3) := by decide +kernel
theorem dX4_lots_68 : decode cX4_lots 68 = .ok (.if_icmp .ge 43, 3) := by decide +kernel
theorem dX4_lots_71 : decode cX4_lots 71 = .ok (.iload 5, 2) := by decide +kernel
theorem dX4_lots_73 : decode cX4_lots 73 = .ok (.ldc 229, 2) := by decide +kernel
theorem dX4_lots_75 : decode cX4_lots 75 = .ok (.imul, 1) := by decide +kernel
theorem dX4_lots_76 : decode cX4_lots 76 = .ok (.ldc 230, 2) := by decide +kernel
theorem dX4_lots_78 : decode cX4_lots 78 = .ok (.iadd, 1) := by decide +kernel
theorem dX4_lots_79 : decode cX4_lots 79 = .ok (.istore 5, 2) := by decide +kernel
theorem dX4_lots_81 : decode cX4_lots 81 = .ok (.aload_n 0, 1) := by decide +kernel
theorem dX4_lots_82 : decode cX4_lots 82 = .ok (.getfield 16, 3) := by decide +kernel
theorem dX4_lots_85 : decode cX4_lots 85 = .ok (.iload 8, 2) := by decide +kernel
theorem dX4_lots_87 : decode cX4_lots 87 = .ok (.invokevirtual 79, 3) := by decide +kernel
theorem dX4_lots_90 : decode cX4_lots 90 = .ok (.iload 5, 2) := by decide +kernel
theorem dX4_lots_92 : decode cX4_lots 92 = .ok (.ldc 231, 2) := by decide +kernel
theorem dX4_lots_94 : decode cX4_lots 94 = .ok (.iand, 1) := by decide +kernel
theorem dX4_lots_95 : decode cX4_lots 95 = .ok (.sipush 256, 3) := by decide +kernel
theorem dX4_lots_98 : decode cX4_lots 98 = .ok (.idiv, 1) := by decide +kernel
theorem dX4_lots_99 : decode cX4_lots 99 = .ok (.bipush 30, 2) := by decide +kernel
theorem dX4_lots_101 : decode cX4_lots 101 = .ok (.irem, 1) := by decide +kernel
theorem dX4_lots_102 : decode cX4_lots 102 = .ok (.putfield 89, 3) := by decide +kernel
theorem dX4_lots_105 : decode cX4_lots 105 = .ok (.iinc 8 1, 3) := by decide +kernel
theorem dX4_lots_108 : decode cX4_lots 108 = .ok (.goto (-49), 3) := by decide +kernel
theorem dX4_lots_111 : decode cX4_lots 111 = .ok (.aload_n 0, 1) := by decide +kernel
theorem dX4_lots_112 : decode cX4_lots 112 = .ok (.getfield 16, 3) := by decide +kernel
theorem dX4_lots_115 : decode cX4_lots 115 = .ok (.bipush 20, 2) := by decide +kernel
theorem dX4_lots_117 : decode cX4_lots 117 = .ok (.invokevirtual 127, 3) := by decide +kernel
theorem dX4_lots_120 : decode cX4_lots 120 = .ok (.iload 6, 2) := by decide +kernel
theorem dX4_lots_122 : decode cX4_lots 122 = .ok (.iload_n 3, 1) := by decide +kernel
theorem dX4_lots_123 : decode cX4_lots 123 = .ok (.ifCond .ne 21, 3) := by decide +kernel
theorem dX4_lots_126 : decode cX4_lots 126 = .ok (.aload_n 0, 1) := by decide +kernel
theorem dX4_lots_127 : decode cX4_lots 127 = .ok (.getfield 16, 3) := by decide +kernel
theorem dX4_lots_130 : decode cX4_lots 130 = .ok (.invokevirtual 124, 3) := by decide +kernel
theorem dX4_lots_133 : decode cX4_lots 133 = .ok (.aload_n 0, 1) := by decide +kernel
theorem dX4_lots_134 : decode cX4_lots 134 = .ok (.getfield 10, 3) := by decide +kernel
theorem dX4_lots_137 : decode cX4_lots 137 = .ok (.invokevirtual 124, 3) := by decide +kernel
theorem dX4_lots_140 : decode cX4_lots 140 = .ok (.isub, 1) := by decide +kernel
theorem dX4_lots_141 : decode cX4_lots 141 = .ok (.goto 18, 3) := by decide +kernel
theorem dX4_lots_144 : decode cX4_lots 144 = .ok (.aload_n 0, 1) := by decide +kernel
theorem dX4_lots_145 : decode cX4_lots 145 = .ok (.getfield 16, 3) := by decide +kernel
theorem dX4_lots_148 : decode cX4_lots 148 = .ok (.invokevirtual 138, 3) := by decide +kernel
theorem dX4_lots_151 : decode cX4_lots 151 = .ok (.aload_n 0, 1) := by decide +kernel
theorem dX4_lots_152 : decode cX4_lots 152 = .ok (.getfield 10, 3) := by decide +kernel
theorem dX4_lots_155 : decode cX4_lots 155 = .ok (.invokevirtual 138, 3) := by decide +kernel
theorem dX4_lots_158 : decode cX4_lots 158 = .ok (.isub, 1) := by decide +kernel
theorem dX4_lots_159 : decode cX4_lots 159 = .ok (.iadd, 1) := by decide +kernel
theorem dX4_lots_160 : decode cX4_lots 160 = .ok (.istore 6, 2) := by decide +kernel
theorem dX4_lots_162 : decode cX4_lots 162 = .ok (.iinc 7 1, 3) := by decide +kernel
theorem dX4_lots_165 : decode cX4_lots 165 = .ok (.goto (-126), 3) := by decide +kernel
theorem dX4_lots_168 : decode cX4_lots 168 = .ok (.iload 6, 2) := by decide +kernel
theorem dX4_lots_170 : decode cX4_lots 170 = .ok (.ireturn, 1) := by decide +kernel
set_option maxRecDepth 20000 in
theorem ggX4_image_X1_takeFrom : GoodIn wsX4_image wsX1_takeFrom := goodIn_r _ [9, 10, 11, 12, 13, 14, 15, 16, 8, 17, 18, 19, 20, 21, 22, 23, 24, 25, 26, 27, 28, 29, 30, 31, 32, 44, 45, 46, 47, 48, 49, 50, 51, 52, 53, 54, 55, 56, 57] (by decide +kernel) (by decide +kernel)
set_option maxRecDepth 20000 in
theorem gX4_image_X1_takeFrom : GoodIn wsX4_image (wsV RX4 134 RX1 yX1_takeFrom wsX1_takeFrom) := goodIn_app (goodIn_of _ (by decide +kernel)) ggX4_image_X1_takeFrom
theorem dX4_image_0 : decode cX4_image 0 = .ok (.aload_n 0, 1) := by decide +kernel
theorem dX4_image_1 : decode cX4_image 1 = .ok (.getfield 19, 3) := by decide +kernel
theorem dX4_image_4 : decode cX4_image 4 = .ok (.aload_n 0, 1) := by decide +kernel
theorem dX4_image_5 : decode cX4_image 5 = .ok (.getfield 10, 3) := by decide +kernel
theorem dX4_image_8 : decode cX4_image 8 = .ok (.invokevirtual 134, 3) := by decide +kernel
theorem dX4_image_11 : decode cX4_image 11 = .ok (.aload_n 0, 1) := by decide +kernel
theorem dX4_image_12 : decode cX4_image 12 = .ok (.iconst 1, 1) := by decide +kernel
theorem dX4_image_13 : decode cX4_image 13 = .ok (.putfield 232, 3) := by decide +kernel
theorem dX4_image_16 : decode cX4_image 16 = .ok (.aload_n 0, 1) := by decide +kernel
theorem dX4_image_17 : decode cX4_image 17 = .ok (.getfield 10, 3) := by decide +kernel
theorem dX4_image_20 : decode cX4_image 20 = .ok (.getfield 121, 3) := by decide +kernel
theorem dX4_image_23 : decode cX4_image 23 = .ok (.ireturn, 1) := by decide +kernel
set_option maxRecDepth 20000 in
theorem ggX4_on_X4_refused : GoodIn wsX4_on wsX4_refused := goodIn_r _ [9, 10, 39, 40, 41, 42, 43, 44, 45, 46, 47, 48, 49] (by decide +kernel) (by decide +kernel)
set_option maxRecDepth 20000 in
theorem gX4_on_X4_refused : GoodIn wsX4_on (wsV RX4 57 RX4 yX4_refused wsX4_refused) := goodIn_app (goodIn_of _ (by decide +kernel)) ggX4_on_X4_refused
set_option maxRecDepth 20000 in
theorem ggX4_on_X1_takeFrom : GoodIn wsX4_on wsX1_takeFrom := goodIn_r _ [15, 16, 17, 18, 19, 20, 21, 22, 14, 23, 24, 25, 26, 27, 28, 29, 30, 31, 32, 33, 34, 35, 36, 37, 38, 50, 51, 52, 53, 54, 55, 56, 57, 58, 59, 60, 61, 62, 63] (by decide +kernel) (by decide +kernel)
set_option maxRecDepth 20000 in
theorem gX4_on_X1_takeFrom : GoodIn wsX4_on (wsV RX4 134 RX1 yX1_takeFrom wsX1_takeFrom) := goodIn_app (goodIn_of _ (by decide +kernel)) ggX4_on_X1_takeFrom
theorem dX4_on_0 : decode cX4_on 0 = .ok (.aload_n 0, 1) := by decide +kernel
theorem dX4_on_1 : decode cX4_on 1 = .ok (.getfield 232, 3) := by decide +kernel
theorem dX4_on_4 : decode cX4_on 4 = .ok (.ifCond .ne 10, 3) := by decide +kernel
theorem dX4_on_7 : decode cX4_on 7 = .ok (.aload_n 0, 1) := by decide +kernel
theorem dX4_on_8 : decode cX4_on 8 = .ok (.bipush (-3), 2) := by decide +kernel
theorem dX4_on_10 : decode cX4_on 10 = .ok (.invokevirtual 57, 3) := by decide +kernel
theorem dX4_on_13 : decode cX4_on 13 = .ok (.ireturn, 1) := by decide +kernel
theorem dX4_on_14 : decode cX4_on 14 = .ok (.aload_n 0, 1) := by decide +kernel
theorem dX4_on_15 : decode cX4_on 15 = .ok (.getfield 10, 3) := by decide +kernel
theorem dX4_on_18 : decode cX4_on 18 = .ok (.aload_n 0, 1) := by decide +kernel
theorem dX4_on_19 : decode cX4_on 19 = .ok (.getfield 19, 3) := by decide +kernel
theorem dX4_on_22 : decode cX4_on 22 = .ok (.invokevirtual 134, 3) := by decide +kernel
theorem dX4_on_25 : decode cX4_on 25 = .ok (.aload_n 0, 1) := by decide +kernel
theorem dX4_on_26 : decode cX4_on 26 = .ok (.getfield 10, 3) := by decide +kernel
theorem dX4_on_29 : decode cX4_on 29 = .ok (.getfield 121, 3) := by decide +kernel
theorem dX4_on_32 : decode cX4_on 32 = .ok (.ireturn, 1) := by decide +kernel
set_option maxRecDepth 20000 in
theorem ggX4_count_X1_allHas : GoodIn wsX4_count wsX1_allHas := goodIn_r _ [14, 15, 16, 17, 18, 19, 13, 20, 21, 22, 39, 40, 41, 42, 43, 44, 47, 48, 49, 50, 51, 52, 53, 54] (by decide +kernel) (by decide +kernel)
set_option maxRecDepth 20000 in
theorem gX4_count_X1_allHas : GoodIn wsX4_count (wsV RX4 209 RX1 yX1_allHas wsX1_allHas) := goodIn_app (goodIn_of _ (by decide +kernel)) ggX4_count_X1_allHas
set_option maxRecDepth 20000 in
theorem ggX4_count_X1_allWithMatter : GoodIn wsX4_count wsX1_allWithMatter := goodIn_r _ [26, 15, 27, 17, 18, 19, 13, 20, 21, 22, 39, 40, 41, 42, 43, 44, 47, 48, 49, 50, 51, 52, 53, 54] (by decide +kernel) (by decide +kernel)
set_option maxRecDepth 20000 in
theorem gX4_count_X1_allWithMatter : GoodIn wsX4_count (wsV RX4 236 RX1 yX1_allWithMatter wsX1_allWithMatter) := goodIn_app (goodIn_of _ (by decide +kernel)) ggX4_count_X1_allWithMatter
theorem dX4_count_0 : decode cX4_count 0 = .ok (.iload_n 1, 1) := by decide +kernel
theorem dX4_count_1 : decode cX4_count 1 = .ok (.bipush 11, 2) := by decide +kernel
theorem dX4_count_3 : decode cX4_count 3 = .ok (.if_icmp .lt 34, 3) := by decide +kernel
theorem dX4_count_6 : decode cX4_count 6 = .ok (.iload_n 1, 1) := by decide +kernel
theorem dX4_count_7 : decode cX4_count 7 = .ok (.bipush 16, 2) := by decide +kernel
theorem dX4_count_9 : decode cX4_count 9 = .ok (.if_icmp .gt 28, 3) := by decide +kernel
theorem dX4_count_12 : decode cX4_count 12 = .ok (.iload_n 1, 1) := by decide +kernel
theorem dX4_count_13 : decode cX4_count 13 = .ok (.bipush 10, 2) := by decide +kernel
theorem dX4_count_15 : decode cX4_count 15 = .ok (.isub, 1) := by decide +kernel
theorem dX4_count_16 : decode cX4_count 16 = .ok (.istore_n 2, 1) := by decide +kernel
theorem dX4_count_17 : decode cX4_count 17 = .ok (.iload_n 2, 1) := by decide +kernel
theorem dX4_count_18 : decode cX4_count 18 = .ok (.aload_n 0, 1) := by decide +kernel
theorem dX4_count_19 : decode cX4_count 19 = .ok (.getfield 40, 3) := by decide +kernel
theorem dX4_count_22 : decode cX4_count 22 = .ok (.arraylength, 1) := by decide +kernel
theorem dX4_count_23 : decode cX4_count 23 = .ok (.if_icmp .ge 12, 3) := by decide +kernel
theorem dX4_count_26 : decode cX4_count 26 = .ok (.aload_n 0, 1) := by decide +kernel
theorem dX4_count_27 : decode cX4_count 27 = .ok (.getfield 40, 3) := by decide +kernel
theorem dX4_count_30 : decode cX4_count 30 = .ok (.iload_n 2, 1) := by decide +kernel
theorem dX4_count_31 : decode cX4_count 31 = .ok (.iaload, 1) := by decide +kernel
theorem dX4_count_32 : decode cX4_count 32 = .ok (.goto 4, 3) := by decide +kernel
theorem dX4_count_35 : decode cX4_count 35 = .ok (.iconst 0, 1) := by decide +kernel
theorem dX4_count_36 : decode cX4_count 36 = .ok (.ireturn, 1) := by decide +kernel
theorem dX4_count_37 : decode cX4_count 37 = .ok (.iload_n 1, 1) := by decide +kernel
theorem dX4_count_38 : decode cX4_count 38 = .ok (.tableswitch 107 0 7 #[46, 54, 62, 70, 78, 86, 94, 99], 46) := by decide +kernel
theorem dX4_count_84 : decode cX4_count 84 = .ok (.aload_n 0, 1) := by decide +kernel
theorem dX4_count_85 : decode cX4_count 85 = .ok (.getfield 10, 3) := by decide +kernel
theorem dX4_count_88 : decode cX4_count 88 = .ok (.getfield 159, 3) := by decide +kernel
theorem dX4_count_91 : decode cX4_count 91 = .ok (.ireturn, 1) := by decide +kernel
theorem dX4_count_92 : decode cX4_count 92 = .ok (.aload_n 0, 1) := by decide +kernel
theorem dX4_count_93 : decode cX4_count 93 = .ok (.getfield 10, 3) := by decide +kernel
theorem dX4_count_96 : decode cX4_count 96 = .ok (.getfield 121, 3) := by decide +kernel
theorem dX4_count_99 : decode cX4_count 99 = .ok (.ireturn, 1) := by decide +kernel
theorem dX4_count_100 : decode cX4_count 100 = .ok (.aload_n 0, 1) := by decide +kernel
theorem dX4_count_101 : decode cX4_count 101 = .ok (.getfield 10, 3) := by decide +kernel
theorem dX4_count_104 : decode cX4_count 104 = .ok (.getfield 111, 3) := by decide +kernel
theorem dX4_count_107 : decode cX4_count 107 = .ok (.ireturn, 1) := by decide +kernel
theorem dX4_count_108 : decode cX4_count 108 = .ok (.aload_n 0, 1) := by decide +kernel
theorem dX4_count_109 : decode cX4_count 109 = .ok (.getfield 10, 3) := by decide +kernel
theorem dX4_count_112 : decode cX4_count 112 = .ok (.getfield 141, 3) := by decide +kernel
theorem dX4_count_115 : decode cX4_count 115 = .ok (.ireturn, 1) := by decide +kernel
theorem dX4_count_116 : decode cX4_count 116 = .ok (.aload_n 0, 1) := by decide +kernel
theorem dX4_count_117 : decode cX4_count 117 = .ok (.getfield 10, 3) := by decide +kernel
theorem dX4_count_120 : decode cX4_count 120 = .ok (.invokevirtual 209, 3) := by decide +kernel
theorem dX4_count_123 : decode cX4_count 123 = .ok (.ireturn, 1) := by decide +kernel
theorem dX4_count_124 : decode cX4_count 124 = .ok (.aload_n 0, 1) := by decide +kernel
theorem dX4_count_125 : decode cX4_count 125 = .ok (.getfield 10, 3) := by decide +kernel
theorem dX4_count_128 : decode cX4_count 128 = .ok (.invokevirtual 236, 3) := by decide +kernel
theorem dX4_count_131 : decode cX4_count 131 = .ok (.ireturn, 1) := by decide +kernel
theorem dX4_count_132 : decode cX4_count 132 = .ok (.aload_n 0, 1) := by decide +kernel
theorem dX4_count_133 : decode cX4_count 133 = .ok (.getfield 223, 3) := by decide +kernel
theorem dX4_count_136 : decode cX4_count 136 = .ok (.ireturn, 1) := by decide +kernel
theorem dX4_count_137 : decode cX4_count 137 = .ok (.aload_n 0, 1) := by decide +kernel
theorem dX4_count_138 : decode cX4_count 138 = .ok (.getfield 32, 3) := by decide +kernel
theorem dX4_count_141 : decode cX4_count 141 = .ok (.getfield 53, 3) := by decide +kernel
theorem dX4_count_144 : decode cX4_count 144 = .ok (.ireturn, 1) := by decide +kernel
theorem dX4_count_145 : decode cX4_count 145 = .ok (.bipush (-9), 2) := by decide +kernel
theorem dX4_count_147 : decode cX4_count 147 = .ok (.ireturn, 1) := by decide +kernel
theorem dX4_refused_0 : decode cX4_refused 0 = .ok (.iload_n 1, 1) := by decide +kernel
theorem dX4_refused_1 : decode cX4_refused 1 = .ok (.ineg, 1) := by decide +kernel
theorem dX4_refused_2 : decode cX4_refused 2 = .ok (.istore_n 2, 1) := by decide +kernel
theorem dX4_refused_3 : decode cX4_refused 3 = .ok (.iload_n 2, 1) := by decide +kernel
theorem dX4_refused_4 : decode cX4_refused 4 = .ok (.ifCond .lt 22, 3) := by decide +kernel
theorem dX4_refused_7 : decode cX4_refused 7 = .ok (.iload_n 2, 1) := by decide +kernel
theorem dX4_refused_8 : decode cX4_refused 8 = .ok (.aload_n 0, 1) := by decide +kernel
theorem dX4_refused_9 : decode cX4_refused 9 = .ok (.getfield 40, 3) := by decide +kernel
theorem dX4_refused_12 : decode cX4_refused 12 = .ok (.arraylength, 1) := by decide +kernel
theorem dX4_refused_13 : decode cX4_refused 13 = .ok (.if_icmp .ge 13, 3) := by decide +kernel
theorem dX4_refused_16 : decode cX4_refused 16 = .ok (.aload_n 0, 1) := by decide +kernel
theorem dX4_refused_17 : decode cX4_refused 17 = .ok (.getfield 40, 3) := by decide +kernel
theorem dX4_refused_20 : decode cX4_refused 20 = .ok (.iload_n 2, 1) := by decide +kernel
theorem dX4_refused_21 : decode cX4_refused 21 = .ok (.dup2, 1) := by decide +kernel
theorem dX4_refused_22 : decode cX4_refused 22 = .ok (.iaload, 1) := by decide +kernel
theorem dX4_refused_23 : decode cX4_refused 23 = .ok (.iconst 1, 1) := by decide +kernel
theorem dX4_refused_24 : decode cX4_refused 24 = .ok (.iadd, 1) := by decide +kernel
theorem dX4_refused_25 : decode cX4_refused 25 = .ok (.iastore, 1) := by decide +kernel
theorem dX4_refused_26 : decode cX4_refused 26 = .ok (.iload_n 1, 1) := by decide +kernel
theorem dX4_refused_27 : decode cX4_refused 27 = .ok (.ireturn, 1) := by decide +kernel
theorem dX4_firstOf_0 : decode cX4_firstOf 0 = .ok (.iload_n 0, 1) := by decide +kernel
theorem dX4_firstOf_1 : decode cX4_firstOf 1 = .ok (.ifCond .eq 5, 3) := by decide +kernel
theorem dX4_firstOf_4 : decode cX4_firstOf 4 = .ok (.iload_n 0, 1) := by decide +kernel
theorem dX4_firstOf_5 : decode cX4_firstOf 5 = .ok (.ireturn, 1) := by decide +kernel
theorem dX4_firstOf_6 : decode cX4_firstOf 6 = .ok (.iload_n 1, 1) := by decide +kernel
theorem dX4_firstOf_7 : decode cX4_firstOf 7 = .ok (.ifCond .eq 7, 3) := by decide +kernel
theorem dX4_firstOf_10 : decode cX4_firstOf 10 = .ok (.iload_n 1, 1) := by decide +kernel
theorem dX4_firstOf_11 : decode cX4_firstOf 11 = .ok (.goto 4, 3) := by decide +kernel
theorem dX4_firstOf_14 : decode cX4_firstOf 14 = .ok (.iload_n 2, 1) := by decide +kernel
theorem dX4_firstOf_15 : decode cX4_firstOf 15 = .ok (.ireturn, 1) := by decide +kernel
set_option maxRecDepth 20000 in
theorem ggX4_unknown_X1_knows : GoodIn wsX4_unknown wsX1_knows := goodIn_r _ [6, 7, 19, 20, 21, 22, 23, 24] (by decide +kernel) (by decide +kernel)
set_option maxRecDepth 20000 in
theorem gX4_unknown_X1_knows : GoodIn wsX4_unknown (wsV RX4 226 RX1 yX1_knows wsX1_knows) := goodIn_app (goodIn_of _ (by decide +kernel)) ggX4_unknown_X1_knows
theorem dX4_unknown_0 : decode cX4_unknown 0 = .ok (.aload_n 0, 1) := by decide +kernel
theorem dX4_unknown_1 : decode cX4_unknown 1 = .ok (.getfield 10, 3) := by decide +kernel
theorem dX4_unknown_4 : decode cX4_unknown 4 = .ok (.iload_n 1, 1) := by decide +kernel
theorem dX4_unknown_5 : decode cX4_unknown 5 = .ok (.invokevirtual 226, 3) := by decide +kernel
theorem dX4_unknown_8 : decode cX4_unknown 8 = .ok (.ifCond .eq 7, 3) := by decide +kernel
theorem dX4_unknown_11 : decode cX4_unknown 11 = .ok (.iconst 0, 1) := by decide +kernel
theorem dX4_unknown_12 : decode cX4_unknown 12 = .ok (.goto 4, 3) := by decide +kernel
theorem dX4_unknown_15 : decode cX4_unknown 15 = .ok (.iconst (-1), 1) := by decide +kernel
theorem dX4_unknown_16 : decode cX4_unknown 16 = .ok (.ireturn, 1) := by decide +kernel
theorem dX4_other_0 : decode cX4_other 0 = .ok (.iload_n 0, 1) := by decide +kernel
theorem dX4_other_1 : decode cX4_other 1 = .ok (.ifCond .lt 8, 3) := by decide +kernel
theorem dX4_other_4 : decode cX4_other 4 = .ok (.iload_n 0, 1) := by decide +kernel
theorem dX4_other_5 : decode cX4_other 5 = .ok (.iload_n 1, 1) := by decide +kernel
theorem dX4_other_6 : decode cX4_other 6 = .ok (.if_icmp .le 8, 3) := by decide +kernel
theorem dX4_other_9 : decode cX4_other 9 = .ok (.bipush (-2), 2) := by decide +kernel
theorem dX4_other_11 : decode cX4_other 11 = .ok (.goto 4, 3) := by decide +kernel
theorem dX4_other_14 : decode cX4_other 14 = .ok (.iconst 0, 1) := by decide +kernel
theorem dX4_other_15 : decode cX4_other 15 = .ok (.ireturn, 1) := by decide +kernel
theorem dX4_outside_0 : decode cX4_outside 0 = .ok (.iload_n 0, 1) := by decide +kernel
theorem dX4_outside_1 : decode cX4_outside 1 = .ok (.iload_n 1, 1) := by decide +kernel
theorem dX4_outside_2 : decode cX4_outside 2 = .ok (.if_icmp .ge 6, 3) := by decide +kernel
theorem dX4_outside_5 : decode cX4_outside 5 = .ok (.bipush (-4), 2) := by decide +kernel
theorem dX4_outside_7 : decode cX4_outside 7 = .ok (.ireturn, 1) := by decide +kernel
theorem dX4_outside_8 : decode cX4_outside 8 = .ok (.iload_n 0, 1) := by decide +kernel
theorem dX4_outside_9 : decode cX4_outside 9 = .ok (.iload_n 2, 1) := by decide +kernel
theorem dX4_outside_10 : decode cX4_outside 10 = .ok (.if_icmp .le 8, 3) := by decide +kernel
theorem dX4_outside_13 : decode cX4_outside 13 = .ok (.bipush (-6), 2) := by decide +kernel
theorem dX4_outside_15 : decode cX4_outside 15 = .ok (.goto 4, 3) := by decide +kernel
theorem dX4_outside_18 : decode cX4_outside 18 = .ok (.iconst 0, 1) := by decide +kernel
theorem dX4_outside_19 : decode cX4_outside 19 = .ok (.ireturn, 1) := by decide +kernel
set_option maxRecDepth 20000 in
theorem ggX4_read_X3_firstWrong : GoodIn wsX4_read wsX3_firstWrong := goodIn_r _ [9, 10, 11, 12, 13, 8, 14, 15, 16, 17, 18, 19, 20, 21, 22, 23, 24, 25, 26, 27, 28, 29, 30, 31, 32, 33, 34, 35, 36, 37, 38, 39, 40, 41, 42, 43, 44, 45, 46, 47, 48, 49, 50, 51, 52, 53, 54, 55, 56, 57, 58, 59, 60, 61, 62, 63, 64, 65, 66, 67, 68, 69, 70, 71, 72, 73, 74, 75, 76, 77, 78, 79, 80, 81, 82, 83, 84, 85, 86, 87, 88, 89, 90, 91, 92, 93, 94, 95, 96, 97, 98, 99, 100, 101, 102, 103, 104, 105, 106, 107, 108, 109, 110, 111, 112, 113, 114, 115, 116, 117, 118, 119, 120, 121, 122, 123, 124, 125, 126, 127, 128, 129, 130, 131, 132, 133, 134, 135, 136, 137, 138, 139, 140, 251, 252] (by decide +kernel) (by decide +kernel)
set_option maxRecDepth 20000 in
theorem gX4_read_X3_firstWrong : GoodIn wsX4_read (wsV RX4 239 RX3 yX3_firstWrong wsX3_firstWrong) := goodIn_app (goodIn_of _ (by decide +kernel)) ggX4_read_X3_firstWrong
set_option maxRecDepth 20000 in
theorem ggX4_read_X1_takeFrom : GoodIn wsX4_read wsX1_takeFrom := goodIn_r _ [145, 146, 147, 148, 149, 150, 151, 152, 144, 153, 154, 155, 156, 157, 158, 159, 160, 161, 162, 163, 164, 165, 166, 167, 168, 253, 254, 255, 256, 257, 258, 259, 260, 261, 262, 263, 264, 265, 266] (by decide +kernel) (by decide +kernel)
set_option maxRecDepth 20000 in
theorem gX4_read_X1_takeFrom : GoodIn wsX4_read (wsV RX4 134 RX1 yX1_takeFrom wsX1_takeFrom) := goodIn_app (goodIn_of _ (by decide +kernel)) ggX4_read_X1_takeFrom
set_option maxRecDepth 20000 in
theorem ggX4_read_X4_comes : GoodIn wsX4_read wsX4_comes := goodIn_r _ [173, 1, 2, 174, 175, 176, 8, 177, 11, 12, 13, 14, 10, 15, 178, 179, 77, 78, 79, 80, 81, 82, 22, 83, 84, 85, 86, 87, 24, 39, 40, 41, 42, 33, 34, 88, 26, 27, 28, 29, 30, 31, 32, 89, 90, 45, 91, 92, 93, 94, 95, 96, 97, 98, 99, 100, 101, 102, 103, 104, 105, 106, 57, 107, 108, 109, 110, 111, 112, 113, 114, 115, 116, 62, 63, 64, 117, 118, 119, 50, 120, 121, 53, 122, 123, 124, 125, 66, 67, 68, 69, 70, 71, 126, 127, 128, 129, 130, 131, 132, 133, 134, 135, 136, 137, 138, 139, 140, 180, 181, 182, 144, 183, 146, 154, 155, 184, 185, 186, 150, 151, 152, 153, 156, 157, 158, 159, 160, 161, 162, 163, 164, 165, 166, 167, 168, 187, 188, 189, 190, 147, 191, 192, 193, 194, 195, 196, 197, 198, 199, 200, 201, 202, 203, 204, 148, 205, 206, 207, 208, 209, 210, 211, 212, 213, 214, 215, 216, 149, 217, 218, 219, 220, 221, 222, 223, 224, 225, 226, 227, 228, 229, 230, 231, 232, 233, 234, 235, 240, 241, 242, 243, 244, 245, 246, 247, 248, 249, 250, 251, 252, 253, 254, 255, 256, 257, 258, 259, 260, 261, 262, 263, 264, 265, 266] (by decide +kernel) (by decide +kernel)
set_option maxRecDepth 20000 in
theorem gX4_read_X4_comes : GoodIn wsX4_read (wsV RX4 242 RX4 yX4_comes wsX4_comes) := goodIn_app (goodIn_of _ (by decide +kernel)) ggX4_read_X4_comes
set_option maxRecDepth 20000 in
theorem ggX4_read_X3_lengthAt : GoodIn wsX4_read wsX3_lengthAt := goodIn_r _ [239, 11, 12, 13, 8, 14, 10, 15, 16, 17, 18, 25, 26, 27, 22, 28, 24, 29, 30, 31, 32, 33, 34, 251, 252] (by decide +kernel) (by decide +kernel)
set_option maxRecDepth 20000 in
theorem gX4_read_X3_lengthAt : GoodIn wsX4_read (wsV RX4 245 RX3 yX3_lengthAt wsX3_lengthAt) := goodIn_app (goodIn_of _ (by decide +kernel)) ggX4_read_X3_lengthAt
theorem dX4_read_0 : decode cX4_read 0 = .ok (.aload_n 0, 1) := by decide +kernel
theorem dX4_read_1 : decode cX4_read 1 = .ok (.getfield 32, 3) := by decide +kernel
theorem dX4_read_4 : decode cX4_read 4 = .ok (.invokevirtual 239, 3) := by decide +kernel
theorem dX4_read_7 : decode cX4_read 7 = .ok (.istore_n 1, 1) := by decide +kernel
theorem dX4_read_8 : decode cX4_read 8 = .ok (.iload_n 1, 1) := by decide +kernel
theorem dX4_read_9 : decode cX4_read 9 = .ok (.ifCond .lt 9, 3) := by decide +kernel
theorem dX4_read_12 : decode cX4_read 12 = .ok (.sipush (-1000), 3) := by decide +kernel
theorem dX4_read_15 : decode cX4_read 15 = .ok (.iload_n 1, 1) := by decide +kernel
theorem dX4_read_16 : decode cX4_read 16 = .ok (.isub, 1) := by decide +kernel
theorem dX4_read_17 : decode cX4_read 17 = .ok (.ireturn, 1) := by decide +kernel
theorem dX4_read_18 : decode cX4_read 18 = .ok (.aload_n 0, 1) := by decide +kernel
theorem dX4_read_19 : decode cX4_read 19 = .ok (.getfield 16, 3) := by decide +kernel
theorem dX4_read_22 : decode cX4_read 22 = .ok (.aload_n 0, 1) := by decide +kernel
theorem dX4_read_23 : decode cX4_read 23 = .ok (.getfield 10, 3) := by decide +kernel
theorem dX4_read_26 : decode cX4_read 26 = .ok (.invokevirtual 134, 3) := by decide +kernel
theorem dX4_read_29 : decode cX4_read 29 = .ok (.iconst 0, 1) := by decide +kernel
theorem dX4_read_30 : decode cX4_read 30 = .ok (.istore_n 2, 1) := by decide +kernel
theorem dX4_read_31 : decode cX4_read 31 = .ok (.iconst 0, 1) := by decide +kernel
theorem dX4_read_32 : decode cX4_read 32 = .ok (.istore_n 3, 1) := by decide +kernel
theorem dX4_read_33 : decode cX4_read 33 = .ok (.iload_n 3, 1) := by decide +kernel
theorem dX4_read_34 : decode cX4_read 34 = .ok (.aload_n 0, 1) := by decide +kernel
theorem dX4_read_35 : decode cX4_read 35 = .ok (.getfield 32, 3) := by decide +kernel
theorem dX4_read_38 : decode cX4_read 38 = .ok (.getfield 53, 3) := by decide +kernel
theorem dX4_read_41 : decode cX4_read 41 = .ok (.if_icmp .ge 40, 3) := by decide +kernel
theorem dX4_read_44 : decode cX4_read 44 = .ok (.iload_n 2, 1) := by decide +kernel
theorem dX4_read_45 : decode cX4_read 45 = .ok (.bipush 96, 2) := by decide +kernel
theorem dX4_read_47 : decode cX4_read 47 = .ok (.if_icmp .ge 34, 3) := by decide +kernel
theorem dX4_read_50 : decode cX4_read 50 = .ok (.aload_n 0, 1) := by decide +kernel
theorem dX4_read_51 : decode cX4_read 51 = .ok (.iload_n 3, 1) := by decide +kernel
theorem dX4_read_52 : decode cX4_read 52 = .ok (.invokevirtual 242, 3) := by decide +kernel
theorem dX4_read_55 : decode cX4_read 55 = .ok (.ifCond .ne 9, 3) := by decide +kernel
theorem dX4_read_58 : decode cX4_read 58 = .ok (.sipush (-2000), 3) := by decide +kernel
theorem dX4_read_61 : decode cX4_read 61 = .ok (.iload_n 3, 1) := by decide +kernel
theorem dX4_read_62 : decode cX4_read 62 = .ok (.isub, 1) := by decide +kernel
theorem dX4_read_63 : decode cX4_read 63 = .ok (.ireturn, 1) := by decide +kernel
theorem dX4_read_64 : decode cX4_read 64 = .ok (.iload_n 3, 1) := by decide +kernel
theorem dX4_read_65 : decode cX4_read 65 = .ok (.aload_n 0, 1) := by decide +kernel
theorem dX4_read_66 : decode cX4_read 66 = .ok (.getfield 32, 3) := by decide +kernel
theorem dX4_read_69 : decode cX4_read 69 = .ok (.iload_n 3, 1) := by decide +kernel
theorem dX4_read_70 : decode cX4_read 70 = .ok (.invokevirtual 245, 3) := by decide +kernel
theorem dX4_read_73 : decode cX4_read 73 = .ok (.iadd, 1) := by decide +kernel
theorem dX4_read_74 : decode cX4_read 74 = .ok (.istore_n 3, 1) := by decide +kernel
theorem dX4_read_75 : decode cX4_read 75 = .ok (.iinc 2 1, 3) := by decide +kernel
theorem dX4_read_78 : decode cX4_read 78 = .ok (.goto (-45), 3) := by decide +kernel
theorem dX4_read_81 : decode cX4_read 81 = .ok (.aload_n 0, 1) := by decide +kernel
theorem dX4_read_82 : decode cX4_read 82 = .ok (.getfield 10, 3) := by decide +kernel
theorem dX4_read_85 : decode cX4_read 85 = .ok (.aload_n 0, 1) := by decide +kernel
theorem dX4_read_86 : decode cX4_read 86 = .ok (.getfield 16, 3) := by decide +kernel
theorem dX4_read_89 : decode cX4_read 89 = .ok (.invokevirtual 134, 3) := by decide +kernel
theorem dX4_read_92 : decode cX4_read 92 = .ok (.iload_n 2, 1) := by decide +kernel
theorem dX4_read_93 : decode cX4_read 93 = .ok (.ireturn, 1) := by decide +kernel
set_option maxRecDepth 20000 in
theorem ggX4_comes_X3_number : GoodIn wsX4_comes wsX3_number := goodIn_r _ [7, 8, 9, 10, 6, 11, 12, 13, 199, 200] (by decide +kernel) (by decide +kernel)
set_option maxRecDepth 20000 in
theorem gX4_comes_X3_number : GoodIn wsX4_comes (wsV RX4 248 RX3 yX3_number wsX3_number) := goodIn_app (goodIn_of _ (by decide +kernel)) ggX4_comes_X3_number
set_option maxRecDepth 20000 in
theorem ggX4_comes_X3_letterAt : GoodIn wsX4_comes wsX3_letterAt := goodIn_r _ [11, 12, 13, 199, 200] (by decide +kernel) (by decide +kernel)
set_option maxRecDepth 20000 in
theorem gX4_comes_X3_letterAt : GoodIn wsX4_comes (wsV RX4 251 RX3 yX3_letterAt wsX3_letterAt) := goodIn_app (goodIn_of _ (by decide +kernel)) ggX4_comes_X3_letterAt
set_option maxRecDepth 20000 in
theorem ggX4_comes_X3_kindAt : GoodIn wsX4_comes wsX3_kindAt := goodIn_r _ [18, 8, 9, 10, 6, 11, 12, 13, 19, 20, 21, 22, 23, 24, 25, 26, 27, 28, 29, 30, 31, 32, 33, 34, 35, 36, 37, 38, 39, 40, 41, 42, 43, 44, 45, 46, 47, 48, 49, 50, 51, 52, 53, 54, 55, 56, 57, 58, 59, 60, 61, 62, 63, 64, 65, 66, 67, 68, 69, 70, 71, 72, 73, 74, 75, 76, 77, 78, 79, 80, 81, 82, 83, 84, 85, 86, 87, 88, 89, 90, 91, 92, 93, 94, 95, 96, 97, 98, 99, 100, 101, 102, 103, 104, 105, 106, 107, 199, 200] (by decide +kernel) (by decide +kernel)
set_option maxRecDepth 20000 in
theorem gX4_comes_X3_kindAt : GoodIn wsX4_comes (wsV RX4 254 RX3 yX3_kindAt wsX3_kindAt) := goodIn_app (goodIn_of _ (by decide +kernel)) ggX4_comes_X3_kindAt
set_option maxRecDepth 20000 in
theorem ggX4_comes_X1_welcome : GoodIn wsX4_comes wsX1_welcome := goodIn_r _ [112, 113, 114, 115, 116, 117, 118, 119, 120, 121, 111, 122, 123, 124, 125, 126, 127, 128, 129, 130, 131, 132, 133, 134, 135, 201, 202, 203, 204, 205, 206, 207, 208, 209, 210, 211, 212, 213, 214] (by decide +kernel) (by decide +kernel)
set_option maxRecDepth 20000 in
theorem gX4_comes_X1_welcome : GoodIn wsX4_comes (wsV RX4 257 RX1 yX1_welcome wsX1_welcome) := goodIn_app (goodIn_of _ (by decide +kernel)) ggX4_comes_X1_welcome
set_option maxRecDepth 20000 in
theorem ggX4_comes_X1_issue : GoodIn wsX4_comes wsX1_issue := goodIn_r _ [139, 140, 141, 142, 143, 144, 111, 145, 113, 119, 120, 121, 122, 114, 115, 201, 202, 203, 204, 205, 206, 207, 208, 209, 210, 211, 212, 213, 214] (by decide +kernel) (by decide +kernel)
set_option maxRecDepth 20000 in
theorem gX4_comes_X1_issue : GoodIn wsX4_comes (wsV RX4 107 RX1 yX1_issue wsX1_issue) := goodIn_app (goodIn_of _ (by decide +kernel)) ggX4_comes_X1_issue
set_option maxRecDepth 20000 in
theorem ggX4_comes_X1_handIn : GoodIn wsX4_comes wsX1_handIn := goodIn_r _ [149, 140, 141, 150, 52, 49, 53, 142, 143, 144, 111, 145, 113, 119, 120, 121, 122, 114, 115, 151, 152, 153, 154, 155, 201, 202, 203, 204, 205, 206, 207, 208, 209, 210, 211, 212, 213, 214] (by decide +kernel) (by decide +kernel)
set_option maxRecDepth 20000 in
theorem gX4_comes_X1_handIn : GoodIn wsX4_comes (wsV RX4 114 RX1 yX1_handIn wsX1_handIn) := goodIn_app (goodIn_of _ (by decide +kernel)) ggX4_comes_X1_handIn
set_option maxRecDepth 20000 in
theorem ggX4_comes_X1_setDue : GoodIn wsX4_comes wsX1_setDue := goodIn_r _ [159, 118, 142, 143, 144, 111, 145, 113, 119, 120, 121, 122, 114, 115, 207, 208, 209, 210, 211, 212, 213, 214, 201, 202, 203, 204, 205, 206] (by decide +kernel) (by decide +kernel)
set_option maxRecDepth 20000 in
theorem gX4_comes_X1_setDue : GoodIn wsX4_comes (wsV RX4 261 RX1 yX1_setDue wsX1_setDue) := goodIn_app (goodIn_of _ (by decide +kernel)) ggX4_comes_X1_setDue
set_option maxRecDepth 20000 in
theorem ggX4_comes_X1_fill : GoodIn wsX4_comes wsX1_fill := goodIn_r _ [163, 140, 201, 202, 203, 204, 205, 206] (by decide +kernel) (by decide +kernel)
set_option maxRecDepth 20000 in
theorem gX4_comes_X1_fill : GoodIn wsX4_comes (wsV RX4 118 RX1 yX1_fill wsX1_fill) := goodIn_app (goodIn_of _ (by decide +kernel)) ggX4_comes_X1_fill
set_option maxRecDepth 20000 in
theorem ggX4_comes_X1_daysCome : GoodIn wsX4_comes wsX1_daysCome := goodIn_r _ [167, 168, 169, 170, 171, 111, 172, 113, 119, 120, 121, 122, 114, 115, 173, 174, 175, 126, 176, 131, 128, 129, 130, 134, 132, 177, 52, 49, 53, 135, 133, 178, 179, 180, 181, 182, 183, 184, 185, 186, 187, 151, 152, 153, 154, 155, 150, 201, 202, 203, 204, 205, 206, 207, 208, 209, 210, 211, 212, 213, 214] (by decide +kernel) (by decide +kernel)
set_option maxRecDepth 20000 in
theorem gX4_comes_X1_daysCome : GoodIn wsX4_comes (wsV RX4 264 RX1 yX1_daysCome wsX1_daysCome) := goodIn_app (goodIn_of _ (by decide +kernel)) ggX4_comes_X1_daysCome
theorem dX4_comes_0 : decode cX4_comes 0 = .ok (.aload_n 0, 1) := by decide +kernel
theorem dX4_comes_1 : decode cX4_comes 1 = .ok (.getfield 32, 3) := by decide +kernel
theorem dX4_comes_4 : decode cX4_comes 4 = .ok (.iload_n 1, 1) := by decide +kernel
theorem dX4_comes_5 : decode cX4_comes 5 = .ok (.iconst 1, 1) := by decide +kernel
theorem dX4_comes_6 : decode cX4_comes 6 = .ok (.iadd, 1) := by decide +kernel
theorem dX4_comes_7 : decode cX4_comes 7 = .ok (.iconst 1, 1) := by decide +kernel
theorem dX4_comes_8 : decode cX4_comes 8 = .ok (.invokevirtual 248, 3) := by decide +kernel
theorem dX4_comes_11 : decode cX4_comes 11 = .ok (.istore_n 2, 1) := by decide +kernel
theorem dX4_comes_12 : decode cX4_comes 12 = .ok (.aload_n 0, 1) := by decide +kernel
theorem dX4_comes_13 : decode cX4_comes 13 = .ok (.getfield 32, 3) := by decide +kernel
theorem dX4_comes_16 : decode cX4_comes 16 = .ok (.iload_n 1, 1) := by decide +kernel
theorem dX4_comes_17 : decode cX4_comes 17 = .ok (.invokevirtual 251, 3) := by decide +kernel
theorem dX4_comes_20 : decode cX4_comes 20 = .ok (.tableswitch 215 100 117 #[196, 215, 215, 177, 215, 128, 215, 215, 215, 215, 215, 215, 88, 215, 148, 215, 215, 157], 88) := by decide +kernel
theorem dX4_comes_108 : decode cX4_comes 108 = .ok (.aload_n 0, 1) := by decide +kernel
theorem dX4_comes_109 : decode cX4_comes 109 = .ok (.getfield 16, 3) := by decide +kernel
theorem dX4_comes_112 : decode cX4_comes 112 = .ok (.aload_n 0, 1) := by decide +kernel
theorem dX4_comes_113 : decode cX4_comes 113 = .ok (.getfield 32, 3) := by decide +kernel
theorem dX4_comes_116 : decode cX4_comes 116 = .ok (.iload_n 1, 1) := by decide +kernel
theorem dX4_comes_117 : decode cX4_comes 117 = .ok (.iconst 1, 1) := by decide +kernel
theorem dX4_comes_118 : decode cX4_comes 118 = .ok (.iadd, 1) := by decide +kernel
theorem dX4_comes_119 : decode cX4_comes 119 = .ok (.invokevirtual 254, 3) := by decide +kernel
theorem dX4_comes_122 : decode cX4_comes 122 = .ok (.aload_n 0, 1) := by decide +kernel
theorem dX4_comes_123 : decode cX4_comes 123 = .ok (.getfield 32, 3) := by decide +kernel
theorem dX4_comes_126 : decode cX4_comes 126 = .ok (.iload_n 1, 1) := by decide +kernel
theorem dX4_comes_127 : decode cX4_comes 127 = .ok (.iconst 2, 1) := by decide +kernel
theorem dX4_comes_128 : decode cX4_comes 128 = .ok (.iadd, 1) := by decide +kernel
theorem dX4_comes_129 : decode cX4_comes 129 = .ok (.iconst 1, 1) := by decide +kernel
theorem dX4_comes_130 : decode cX4_comes 130 = .ok (.invokevirtual 248, 3) := by decide +kernel
theorem dX4_comes_133 : decode cX4_comes 133 = .ok (.aload_n 0, 1) := by decide +kernel
theorem dX4_comes_134 : decode cX4_comes 134 = .ok (.getfield 32, 3) := by decide +kernel
theorem dX4_comes_137 : decode cX4_comes 137 = .ok (.iload_n 1, 1) := by decide +kernel
theorem dX4_comes_138 : decode cX4_comes 138 = .ok (.iconst 3, 1) := by decide +kernel
theorem dX4_comes_139 : decode cX4_comes 139 = .ok (.iadd, 1) := by decide +kernel
theorem dX4_comes_140 : decode cX4_comes 140 = .ok (.iconst 2, 1) := by decide +kernel
theorem dX4_comes_141 : decode cX4_comes 141 = .ok (.invokevirtual 248, 3) := by decide +kernel
theorem dX4_comes_144 : decode cX4_comes 144 = .ok (.invokevirtual 257, 3) := by decide +kernel
theorem dX4_comes_147 : decode cX4_comes 147 = .ok (.ireturn, 1) := by decide +kernel
theorem dX4_comes_148 : decode cX4_comes 148 = .ok (.aload_n 0, 1) := by decide +kernel
theorem dX4_comes_149 : decode cX4_comes 149 = .ok (.getfield 16, 3) := by decide +kernel
theorem dX4_comes_152 : decode cX4_comes 152 = .ok (.iload_n 2, 1) := by decide +kernel
theorem dX4_comes_153 : decode cX4_comes 153 = .ok (.aload_n 0, 1) := by decide +kernel
theorem dX4_comes_154 : decode cX4_comes 154 = .ok (.getfield 32, 3) := by decide +kernel
theorem dX4_comes_157 : decode cX4_comes 157 = .ok (.iload_n 1, 1) := by decide +kernel
theorem dX4_comes_158 : decode cX4_comes 158 = .ok (.iconst 2, 1) := by decide +kernel
theorem dX4_comes_159 : decode cX4_comes 159 = .ok (.iadd, 1) := by decide +kernel
theorem dX4_comes_160 : decode cX4_comes 160 = .ok (.iconst 2, 1) := by decide +kernel
theorem dX4_comes_161 : decode cX4_comes 161 = .ok (.invokevirtual 248, 3) := by decide +kernel
theorem dX4_comes_164 : decode cX4_comes 164 = .ok (.invokevirtual 107, 3) := by decide +kernel
theorem dX4_comes_167 : decode cX4_comes 167 = .ok (.ireturn, 1) := by decide +kernel
theorem dX4_comes_168 : decode cX4_comes 168 = .ok (.aload_n 0, 1) := by decide +kernel
theorem dX4_comes_169 : decode cX4_comes 169 = .ok (.getfield 16, 3) := by decide +kernel
theorem dX4_comes_172 : decode cX4_comes 172 = .ok (.iload_n 2, 1) := by decide +kernel
theorem dX4_comes_173 : decode cX4_comes 173 = .ok (.invokevirtual 114, 3) := by decide +kernel
theorem dX4_comes_176 : decode cX4_comes 176 = .ok (.ireturn, 1) := by decide +kernel
theorem dX4_comes_177 : decode cX4_comes 177 = .ok (.aload_n 0, 1) := by decide +kernel
theorem dX4_comes_178 : decode cX4_comes 178 = .ok (.getfield 16, 3) := by decide +kernel
theorem dX4_comes_181 : decode cX4_comes 181 = .ok (.iload_n 2, 1) := by decide +kernel
theorem dX4_comes_182 : decode cX4_comes 182 = .ok (.aload_n 0, 1) := by decide +kernel
theorem dX4_comes_183 : decode cX4_comes 183 = .ok (.getfield 32, 3) := by decide +kernel
theorem dX4_comes_186 : decode cX4_comes 186 = .ok (.iload_n 1, 1) := by decide +kernel
theorem dX4_comes_187 : decode cX4_comes 187 = .ok (.iconst 2, 1) := by decide +kernel
theorem dX4_comes_188 : decode cX4_comes 188 = .ok (.iadd, 1) := by decide +kernel
theorem dX4_comes_189 : decode cX4_comes 189 = .ok (.iconst 2, 1) := by decide +kernel
theorem dX4_comes_190 : decode cX4_comes 190 = .ok (.invokevirtual 248, 3) := by decide +kernel
theorem dX4_comes_193 : decode cX4_comes 193 = .ok (.invokevirtual 261, 3) := by decide +kernel
theorem dX4_comes_196 : decode cX4_comes 196 = .ok (.ireturn, 1) := by decide +kernel
theorem dX4_comes_197 : decode cX4_comes 197 = .ok (.aload_n 0, 1) := by decide +kernel
theorem dX4_comes_198 : decode cX4_comes 198 = .ok (.getfield 16, 3) := by decide +kernel
theorem dX4_comes_201 : decode cX4_comes 201 = .ok (.aload_n 0, 1) := by decide +kernel
theorem dX4_comes_202 : decode cX4_comes 202 = .ok (.getfield 32, 3) := by decide +kernel
theorem dX4_comes_205 : decode cX4_comes 205 = .ok (.iload_n 1, 1) := by decide +kernel
theorem dX4_comes_206 : decode cX4_comes 206 = .ok (.iconst 1, 1) := by decide +kernel
theorem dX4_comes_207 : decode cX4_comes 207 = .ok (.iadd, 1) := by decide +kernel
theorem dX4_comes_208 : decode cX4_comes 208 = .ok (.iconst 3, 1) := by decide +kernel
theorem dX4_comes_209 : decode cX4_comes 209 = .ok (.invokevirtual 248, 3) := by decide +kernel
theorem dX4_comes_212 : decode cX4_comes 212 = .ok (.invokevirtual 118, 3) := by decide +kernel
theorem dX4_comes_215 : decode cX4_comes 215 = .ok (.ireturn, 1) := by decide +kernel
theorem dX4_comes_216 : decode cX4_comes 216 = .ok (.aload_n 0, 1) := by decide +kernel
theorem dX4_comes_217 : decode cX4_comes 217 = .ok (.getfield 16, 3) := by decide +kernel
theorem dX4_comes_220 : decode cX4_comes 220 = .ok (.aload_n 0, 1) := by decide +kernel
theorem dX4_comes_221 : decode cX4_comes 221 = .ok (.getfield 32, 3) := by decide +kernel
theorem dX4_comes_224 : decode cX4_comes 224 = .ok (.iload_n 1, 1) := by decide +kernel
theorem dX4_comes_225 : decode cX4_comes 225 = .ok (.iconst 1, 1) := by decide +kernel
theorem dX4_comes_226 : decode cX4_comes 226 = .ok (.iadd, 1) := by decide +kernel
theorem dX4_comes_227 : decode cX4_comes 227 = .ok (.iconst 2, 1) := by decide +kernel
theorem dX4_comes_228 : decode cX4_comes 228 = .ok (.invokevirtual 248, 3) := by decide +kernel
theorem dX4_comes_231 : decode cX4_comes 231 = .ok (.invokevirtual 264, 3) := by decide +kernel
theorem dX4_comes_234 : decode cX4_comes 234 = .ok (.ireturn, 1) := by decide +kernel
theorem dX4_comes_235 : decode cX4_comes 235 = .ok (.iconst 0, 1) := by decide +kernel
theorem dX4_comes_236 : decode cX4_comes 236 = .ok (.ireturn, 1) := by decide +kernel
set_option maxRecDepth 20000 in
theorem ggX4_thought_X1_at : GoodIn wsX4_thought wsX1_at := goodIn_r _ [8, 9, 10, 61, 62, 63, 64, 65, 66] (by decide +kernel) (by decide +kernel)
set_option maxRecDepth 20000 in
theorem gX4_thought_X1_at : GoodIn wsX4_thought (wsV RX4 79 RX1 yX1_at wsX1_at) := goodIn_app (goodIn_of _ (by decide +kernel)) ggX4_thought_X1_at
set_option maxRecDepth 20000 in
theorem ggX4_thought_X2_takeFrom : GoodIn wsX4_thought wsX2_takeFrom := goodIn_r _ [15, 16, 17, 18, 19, 20, 21, 22, 23, 53, 54, 55, 56, 57, 58, 59, 60] (by decide +kernel) (by decide +kernel)
set_option maxRecDepth 20000 in
theorem gX4_thought_X2_takeFrom : GoodIn wsX4_thought (wsV RX4 147 RX2 yX2_takeFrom wsX2_takeFrom) := goodIn_app (goodIn_of _ (by decide +kernel)) ggX4_thought_X2_takeFrom
set_option maxRecDepth 20000 in
theorem ggX4_thought_X2_oneDay : GoodIn wsX4_thought wsX2_oneDay := goodIn_r _ [27, 19, 16, 17, 18, 22, 20, 28, 29, 30, 31, 23, 21, 32, 33, 34, 35, 36, 37, 38, 39, 40, 41, 53, 54, 55, 56, 57, 58, 59, 60] (by decide +kernel) (by decide +kernel)
set_option maxRecDepth 20000 in
theorem gX4_thought_X2_oneDay : GoodIn wsX4_thought (wsV RX4 153 RX2 yX2_oneDay wsX2_oneDay) := goodIn_app (goodIn_of _ (by decide +kernel)) ggX4_thought_X2_oneDay
theorem dX4_thought_0 : decode cX4_thought 0 = .ok (.aload_n 0, 1) := by decide +kernel
theorem dX4_thought_1 : decode cX4_thought 1 = .ok (.getfield 25, 3) := by decide +kernel
theorem dX4_thought_4 : decode cX4_thought 4 = .ok (.aload_n 0, 1) := by decide +kernel
theorem dX4_thought_5 : decode cX4_thought 5 = .ok (.getfield 10, 3) := by decide +kernel
theorem dX4_thought_8 : decode cX4_thought 8 = .ok (.iload_n 1, 1) := by decide +kernel
theorem dX4_thought_9 : decode cX4_thought 9 = .ok (.invokevirtual 79, 3) := by decide +kernel
theorem dX4_thought_12 : decode cX4_thought 12 = .ok (.invokevirtual 147, 3) := by decide +kernel
theorem dX4_thought_15 : decode cX4_thought 15 = .ok (.aload_n 0, 1) := by decide +kernel
theorem dX4_thought_16 : decode cX4_thought 16 = .ok (.getfield 25, 3) := by decide +kernel
theorem dX4_thought_19 : decode cX4_thought 19 = .ok (.iload_n 2, 1) := by decide +kernel
theorem dX4_thought_20 : decode cX4_thought 20 = .ok (.putfield 89, 3) := by decide +kernel
theorem dX4_thought_23 : decode cX4_thought 23 = .ok (.iconst 0, 1) := by decide +kernel
theorem dX4_thought_24 : decode cX4_thought 24 = .ok (.istore 4, 2) := by decide +kernel
theorem dX4_thought_26 : decode cX4_thought 26 = .ok (.iload 4, 2) := by decide +kernel
theorem dX4_thought_28 : decode cX4_thought 28 = .ok (.iload_n 3, 1) := by decide +kernel
theorem dX4_thought_29 : decode cX4_thought 29 = .ok (.if_icmp .ge 17, 3) := by decide +kernel
theorem dX4_thought_32 : decode cX4_thought 32 = .ok (.aload_n 0, 1) := by decide +kernel
theorem dX4_thought_33 : decode cX4_thought 33 = .ok (.getfield 25, 3) := by decide +kernel
theorem dX4_thought_36 : decode cX4_thought 36 = .ok (.invokevirtual 153, 3) := by decide +kernel
theorem dX4_thought_39 : decode cX4_thought 39 = .ok (.pop, 1) := by decide +kernel
theorem dX4_thought_40 : decode cX4_thought 40 = .ok (.iinc 4 1, 3) := by decide +kernel
theorem dX4_thought_43 : decode cX4_thought 43 = .ok (.goto (-17), 3) := by decide +kernel
theorem dX4_thought_46 : decode cX4_thought 46 = .ok (.aload_n 0, 1) := by decide +kernel
theorem dX4_thought_47 : decode cX4_thought 47 = .ok (.getfield 25, 3) := by decide +kernel
theorem dX4_thought_50 : decode cX4_thought 50 = .ok (.areturn, 1) := by decide +kernel
set_option maxRecDepth 20000 in
theorem ggX4_throughMore_X4_thought : GoodIn wsX4_throughMore wsX4_thought := goodIn_r _ [7, 8, 2, 9, 10, 11, 12, 13, 14, 15, 16, 17, 18, 19, 20, 21, 22, 23, 24, 25, 26, 27, 28, 29, 30, 31, 32, 33, 34, 35, 36, 37, 38, 39, 40, 41, 42, 43, 44, 45, 46, 47, 56, 57, 58, 59, 60, 61, 62, 63, 64, 65, 66, 48, 49, 50, 51, 52, 53, 54, 55, 67, 68, 69, 70, 71, 72] (by decide +kernel) (by decide +kernel)
set_option maxRecDepth 20000 in
theorem gX4_throughMore_X4_thought : GoodIn wsX4_throughMore (wsV RX4 130 RX4 yX4_thought wsX4_thought) := goodIn_app (goodIn_of _ (by decide +kernel)) ggX4_throughMore_X4_thought
set_option maxRecDepth 20000 in
theorem ggX4_throughMore_X1_at : GoodIn wsX4_throughMore wsX1_at := goodIn_r _ [14, 15, 16, 67, 68, 69, 70, 71, 72] (by decide +kernel) (by decide +kernel)
set_option maxRecDepth 20000 in
theorem gX4_throughMore_X1_at : GoodIn wsX4_throughMore (wsV RX4 79 RX1 yX1_at wsX1_at) := goodIn_app (goodIn_of _ (by decide +kernel)) ggX4_throughMore_X1_at
theorem dX4_throughMore_0 : decode cX4_throughMore 0 = .ok (.aload_n 0, 1) := by decide +kernel
theorem dX4_throughMore_1 : decode cX4_throughMore 1 = .ok (.iload_n 1, 1) := by decide +kernel
theorem dX4_throughMore_2 : decode cX4_throughMore 2 = .ok (.iload_n 2, 1) := by decide +kernel
theorem dX4_throughMore_3 : decode cX4_throughMore 3 = .ok (.iload_n 3, 1) := by decide +kernel
theorem dX4_throughMore_4 : decode cX4_throughMore 4 = .ok (.invokevirtual 130, 3) := by decide +kernel
theorem dX4_throughMore_7 : decode cX4_throughMore 7 = .ok (.getfield 95, 3) := by decide +kernel
theorem dX4_throughMore_10 : decode cX4_throughMore 10 = .ok (.aload_n 0, 1) := by decide +kernel
theorem dX4_throughMore_11 : decode cX4_throughMore 11 = .ok (.getfield 10, 3) := by decide +kernel
theorem dX4_throughMore_14 : decode cX4_throughMore 14 = .ok (.iload_n 1, 1) := by decide +kernel
theorem dX4_throughMore_15 : decode cX4_throughMore 15 = .ok (.invokevirtual 79, 3) := by decide +kernel
theorem dX4_throughMore_18 : decode cX4_throughMore 18 = .ok (.getfield 95, 3) := by decide +kernel
theorem dX4_throughMore_21 : decode cX4_throughMore 21 = .ok (.isub, 1) := by decide +kernel
theorem dX4_throughMore_22 : decode cX4_throughMore 22 = .ok (.ireturn, 1) := by decide +kernel
set_option maxRecDepth 20000 in
theorem ggX4_shortMore_X4_thought : GoodIn wsX4_shortMore wsX4_thought := goodIn_r _ [7, 8, 2, 9, 10, 11, 12, 13, 14, 15, 16, 17, 18, 19, 20, 21, 22, 23, 24, 25, 26, 27, 28, 29, 30, 31, 32, 33, 34, 35, 36, 37, 38, 39, 40, 41, 42, 43, 44, 45, 46, 47, 56, 57, 58, 59, 60, 61, 62, 63, 64, 65, 66, 48, 49, 50, 51, 52, 53, 54, 55, 67, 68, 69, 70, 71, 72] (by decide +kernel) (by decide +kernel)
set_option maxRecDepth 20000 in
theorem gX4_shortMore_X4_thought : GoodIn wsX4_shortMore (wsV RX4 130 RX4 yX4_thought wsX4_thought) := goodIn_app (goodIn_of _ (by decide +kernel)) ggX4_shortMore_X4_thought
set_option maxRecDepth 20000 in
theorem ggX4_shortMore_X1_at : GoodIn wsX4_shortMore wsX1_at := goodIn_r _ [14, 15, 16, 67, 68, 69, 70, 71, 72] (by decide +kernel) (by decide +kernel)
set_option maxRecDepth 20000 in
theorem gX4_shortMore_X1_at : GoodIn wsX4_shortMore (wsV RX4 79 RX1 yX1_at wsX1_at) := goodIn_app (goodIn_of _ (by decide +kernel)) ggX4_shortMore_X1_at
theorem dX4_shortMore_0 : decode cX4_shortMore 0 = .ok (.aload_n 0, 1) := by decide +kernel
theorem dX4_shortMore_1 : decode cX4_shortMore 1 = .ok (.iload_n 1, 1) := by decide +kernel
theorem dX4_shortMore_2 : decode cX4_shortMore 2 = .ok (.iload_n 2, 1) := by decide +kernel
theorem dX4_shortMore_3 : decode cX4_shortMore 3 = .ok (.iload_n 3, 1) := by decide +kernel
theorem dX4_shortMore_4 : decode cX4_shortMore 4 = .ok (.invokevirtual 130, 3) := by decide +kernel
theorem dX4_shortMore_7 : decode cX4_shortMore 7 = .ok (.getfield 98, 3) := by decide +kernel
theorem dX4_shortMore_10 : decode cX4_shortMore 10 = .ok (.aload_n 0, 1) := by decide +kernel
theorem dX4_shortMore_11 : decode cX4_shortMore 11 = .ok (.getfield 10, 3) := by decide +kernel
theorem dX4_shortMore_14 : decode cX4_shortMore 14 = .ok (.iload_n 1, 1) := by decide +kernel
theorem dX4_shortMore_15 : decode cX4_shortMore 15 = .ok (.invokevirtual 79, 3) := by decide +kernel
theorem dX4_shortMore_18 : decode cX4_shortMore 18 = .ok (.getfield 98, 3) := by decide +kernel
theorem dX4_shortMore_21 : decode cX4_shortMore 21 = .ok (.isub, 1) := by decide +kernel
theorem dX4_shortMore_22 : decode cX4_shortMore 22 = .ok (.ireturn, 1) := by decide +kernel
set_option maxRecDepth 20000 in
theorem ggX4_throughLosing_X1_at : GoodIn wsX4_throughLosing wsX1_at := goodIn_r _ [9, 10, 11, 62, 63, 64, 65, 66, 67] (by decide +kernel) (by decide +kernel)
set_option maxRecDepth 20000 in
theorem gX4_throughLosing_X1_at : GoodIn wsX4_throughLosing (wsV RX4 79 RX1 yX1_at wsX1_at) := goodIn_app (goodIn_of _ (by decide +kernel)) ggX4_throughLosing_X1_at
set_option maxRecDepth 20000 in
theorem ggX4_throughLosing_X2_takeFrom : GoodIn wsX4_throughLosing wsX2_takeFrom := goodIn_r _ [16, 17, 18, 19, 20, 21, 22, 23, 24, 54, 55, 56, 57, 58, 59, 60, 61] (by decide +kernel) (by decide +kernel)
set_option maxRecDepth 20000 in
theorem gX4_throughLosing_X2_takeFrom : GoodIn wsX4_throughLosing (wsV RX4 147 RX2 yX2_takeFrom wsX2_takeFrom) := goodIn_app (goodIn_of _ (by decide +kernel)) ggX4_throughLosing_X2_takeFrom
set_option maxRecDepth 20000 in
theorem ggX4_throughLosing_X2_oneDay : GoodIn wsX4_throughLosing wsX2_oneDay := goodIn_r _ [28, 20, 17, 18, 19, 23, 21, 29, 30, 31, 32, 24, 22, 33, 34, 35, 36, 37, 38, 39, 40, 41, 42, 54, 55, 56, 57, 58, 59, 60, 61] (by decide +kernel) (by decide +kernel)
set_option maxRecDepth 20000 in
theorem gX4_throughLosing_X2_oneDay : GoodIn wsX4_throughLosing (wsV RX4 153 RX2 yX2_oneDay wsX2_oneDay) := goodIn_app (goodIn_of _ (by decide +kernel)) ggX4_throughLosing_X2_oneDay
theorem dX4_throughLosing_0 : decode cX4_throughLosing 0 = .ok (.aload_n 0, 1) := by decide +kernel
theorem dX4_throughLosing_1 : decode cX4_throughLosing 1 = .ok (.getfield 10, 3) := by decide +kernel
theorem dX4_throughLosing_4 : decode cX4_throughLosing 4 = .ok (.iload_n 1, 1) := by decide +kernel
theorem dX4_throughLosing_5 : decode cX4_throughLosing 5 = .ok (.invokevirtual 79, 3) := by decide +kernel
theorem dX4_throughLosing_8 : decode cX4_throughLosing 8 = .ok (.astore 4, 2) := by decide +kernel
theorem dX4_throughLosing_10 : decode cX4_throughLosing 10 = .ok (.aload_n 0, 1) := by decide +kernel
theorem dX4_throughLosing_11 : decode cX4_throughLosing 11 = .ok (.getfield 25, 3) := by decide +kernel
theorem dX4_throughLosing_14 : decode cX4_throughLosing 14 = .ok (.aload 4, 2) := by decide +kernel
theorem dX4_throughLosing_16 : decode cX4_throughLosing 16 = .ok (.invokevirtual 147, 3) := by decide +kernel
theorem dX4_throughLosing_19 : decode cX4_throughLosing 19 = .ok (.iconst 0, 1) := by decide +kernel
theorem dX4_throughLosing_20 : decode cX4_throughLosing 20 = .ok (.istore 5, 2) := by decide +kernel
theorem dX4_throughLosing_22 : decode cX4_throughLosing 22 = .ok (.iload 5, 2) := by decide +kernel
theorem dX4_throughLosing_24 : decode cX4_throughLosing 24 = .ok (.iload_n 2, 1) := by decide +kernel
theorem dX4_throughLosing_25 : decode cX4_throughLosing 25 = .ok (.if_icmp .ge 50, 3) := by decide +kernel
theorem dX4_throughLosing_28 : decode cX4_throughLosing 28 = .ok (.iload_n 3, 1) := by decide +kernel
theorem dX4_throughLosing_29 : decode cX4_throughLosing 29 = .ok (.iload 5, 2) := by decide +kernel
theorem dX4_throughLosing_31 : decode cX4_throughLosing 31 = .ok (.ishr, 1) := by decide +kernel
theorem dX4_throughLosing_32 : decode cX4_throughLosing 32 = .ok (.iconst 1, 1) := by decide +kernel
theorem dX4_throughLosing_33 : decode cX4_throughLosing 33 = .ok (.iand, 1) := by decide +kernel
theorem dX4_throughLosing_34 : decode cX4_throughLosing 34 = .ok (.iconst 1, 1) := by decide +kernel
theorem dX4_throughLosing_35 : decode cX4_throughLosing 35 = .ok (.if_icmp .ne 26, 3) := by decide +kernel
theorem dX4_throughLosing_38 : decode cX4_throughLosing 38 = .ok (.aload_n 0, 1) := by decide +kernel
theorem dX4_throughLosing_39 : decode cX4_throughLosing 39 = .ok (.getfield 25, 3) := by decide +kernel
theorem dX4_throughLosing_42 : decode cX4_throughLosing 42 = .ok (.getfield 89, 3) := by decide +kernel
theorem dX4_throughLosing_45 : decode cX4_throughLosing 45 = .ok (.ifCond .le 16, 3) := by decide +kernel
theorem dX4_throughLosing_48 : decode cX4_throughLosing 48 = .ok (.aload_n 0, 1) := by decide +kernel
theorem dX4_throughLosing_49 : decode cX4_throughLosing 49 = .ok (.getfield 25, 3) := by decide +kernel
theorem dX4_throughLosing_52 : decode cX4_throughLosing 52 = .ok (.dup, 1) := by decide +kernel
theorem dX4_throughLosing_53 : decode cX4_throughLosing 53 = .ok (.getfield 89, 3) := by decide +kernel
theorem dX4_throughLosing_56 : decode cX4_throughLosing 56 = .ok (.iconst 1, 1) := by decide +kernel
theorem dX4_throughLosing_57 : decode cX4_throughLosing 57 = .ok (.isub, 1) := by decide +kernel
theorem dX4_throughLosing_58 : decode cX4_throughLosing 58 = .ok (.putfield 89, 3) := by decide +kernel
theorem dX4_throughLosing_61 : decode cX4_throughLosing 61 = .ok (.aload_n 0, 1) := by decide +kernel
theorem dX4_throughLosing_62 : decode cX4_throughLosing 62 = .ok (.getfield 25, 3) := by decide +kernel
theorem dX4_throughLosing_65 : decode cX4_throughLosing 65 = .ok (.invokevirtual 153, 3) := by decide +kernel
theorem dX4_throughLosing_68 : decode cX4_throughLosing 68 = .ok (.pop, 1) := by decide +kernel
theorem dX4_throughLosing_69 : decode cX4_throughLosing 69 = .ok (.iinc 5 1, 3) := by decide +kernel
theorem dX4_throughLosing_72 : decode cX4_throughLosing 72 = .ok (.goto (-50), 3) := by decide +kernel
theorem dX4_throughLosing_75 : decode cX4_throughLosing 75 = .ok (.aload_n 0, 1) := by decide +kernel
theorem dX4_throughLosing_76 : decode cX4_throughLosing 76 = .ok (.getfield 25, 3) := by decide +kernel
theorem dX4_throughLosing_79 : decode cX4_throughLosing 79 = .ok (.getfield 95, 3) := by decide +kernel
theorem dX4_throughLosing_82 : decode cX4_throughLosing 82 = .ok (.aload 4, 2) := by decide +kernel
theorem dX4_throughLosing_84 : decode cX4_throughLosing 84 = .ok (.getfield 95, 3) := by decide +kernel
theorem dX4_throughLosing_87 : decode cX4_throughLosing 87 = .ok (.isub, 1) := by decide +kernel
theorem dX4_throughLosing_88 : decode cX4_throughLosing 88 = .ok (.ireturn, 1) := by decide +kernel
set_option maxRecDepth 20000 in
theorem ggX4_rowIsOfTrial_X2_oneDay : GoodIn wsX4_rowIsOfTrial wsX2_oneDay := goodIn_r _ [9, 10, 11, 12, 13, 14, 15, 16, 17, 18, 19, 20, 21, 22, 23, 24, 25, 26, 27, 28, 29, 30, 31, 43, 44, 45, 46, 47, 48, 49, 50] (by decide +kernel) (by decide +kernel)
set_option maxRecDepth 20000 in
theorem gX4_rowIsOfTrial_X2_oneDay : GoodIn wsX4_rowIsOfTrial (wsV RX4 153 RX2 yX2_oneDay wsX2_oneDay) := goodIn_app (goodIn_of _ (by decide +kernel)) ggX4_rowIsOfTrial_X2_oneDay
theorem dX4_rowIsOfTrial_0 : decode cX4_rowIsOfTrial 0 = .ok (.iconst 0, 1) := by decide +kernel
theorem dX4_rowIsOfTrial_1 : decode cX4_rowIsOfTrial 1 = .ok (.istore_n 1, 1) := by decide +kernel
theorem dX4_rowIsOfTrial_2 : decode cX4_rowIsOfTrial 2 = .ok (.iload_n 1, 1) := by decide +kernel
theorem dX4_rowIsOfTrial_3 : decode cX4_rowIsOfTrial 3 = .ok (.aload_n 0, 1) := by decide +kernel
theorem dX4_rowIsOfTrial_4 : decode cX4_rowIsOfTrial 4 = .ok (.getfield 223, 3) := by decide +kernel
theorem dX4_rowIsOfTrial_7 : decode cX4_rowIsOfTrial 7 = .ok (.if_icmp .ge 48, 3) := by decide +kernel
theorem dX4_rowIsOfTrial_10 : decode cX4_rowIsOfTrial 10 = .ok (.iload_n 1, 1) := by decide +kernel
theorem dX4_rowIsOfTrial_11 : decode cX4_rowIsOfTrial 11 = .ok (.aload_n 0, 1) := by decide +kernel
theorem dX4_rowIsOfTrial_12 : decode cX4_rowIsOfTrial 12 = .ok (.getfield 36, 3) := by decide +kernel
theorem dX4_rowIsOfTrial_15 : decode cX4_rowIsOfTrial 15 = .ok (.arraylength, 1) := by decide +kernel
theorem dX4_rowIsOfTrial_16 : decode cX4_rowIsOfTrial 16 = .ok (.if_icmp .ge 39, 3) := by decide +kernel
theorem dX4_rowIsOfTrial_19 : decode cX4_rowIsOfTrial 19 = .ok (.iload_n 1, 1) := by decide +kernel
theorem dX4_rowIsOfTrial_20 : decode cX4_rowIsOfTrial 20 = .ok (.ifCond .le 11, 3) := by decide +kernel
theorem dX4_rowIsOfTrial_23 : decode cX4_rowIsOfTrial 23 = .ok (.aload_n 0, 1) := by decide +kernel
theorem dX4_rowIsOfTrial_24 : decode cX4_rowIsOfTrial 24 = .ok (.getfield 25, 3) := by decide +kernel
theorem dX4_rowIsOfTrial_27 : decode cX4_rowIsOfTrial 27 = .ok (.invokevirtual 153, 3) := by decide +kernel
theorem dX4_rowIsOfTrial_30 : decode cX4_rowIsOfTrial 30 = .ok (.pop, 1) := by decide +kernel
theorem dX4_rowIsOfTrial_31 : decode cX4_rowIsOfTrial 31 = .ok (.aload_n 0, 1) := by decide +kernel
theorem dX4_rowIsOfTrial_32 : decode cX4_rowIsOfTrial 32 = .ok (.getfield 25, 3) := by decide +kernel
theorem dX4_rowIsOfTrial_35 : decode cX4_rowIsOfTrial 35 = .ok (.getfield 89, 3) := by decide +kernel
theorem dX4_rowIsOfTrial_38 : decode cX4_rowIsOfTrial 38 = .ok (.aload_n 0, 1) := by decide +kernel
theorem dX4_rowIsOfTrial_39 : decode cX4_rowIsOfTrial 39 = .ok (.getfield 36, 3) := by decide +kernel
theorem dX4_rowIsOfTrial_42 : decode cX4_rowIsOfTrial 42 = .ok (.iload_n 1, 1) := by decide +kernel
theorem dX4_rowIsOfTrial_43 : decode cX4_rowIsOfTrial 43 = .ok (.iaload, 1) := by decide +kernel
theorem dX4_rowIsOfTrial_44 : decode cX4_rowIsOfTrial 44 = .ok (.if_icmp .eq 5, 3) := by decide +kernel
theorem dX4_rowIsOfTrial_47 : decode cX4_rowIsOfTrial 47 = .ok (.iconst 0, 1) := by decide +kernel
theorem dX4_rowIsOfTrial_48 : decode cX4_rowIsOfTrial 48 = .ok (.ireturn, 1) := by decide +kernel
theorem dX4_rowIsOfTrial_49 : decode cX4_rowIsOfTrial 49 = .ok (.iinc 1 1, 3) := by decide +kernel
theorem dX4_rowIsOfTrial_52 : decode cX4_rowIsOfTrial 52 = .ok (.goto (-50), 3) := by decide +kernel
theorem dX4_rowIsOfTrial_55 : decode cX4_rowIsOfTrial 55 = .ok (.iconst 1, 1) := by decide +kernel
theorem dX4_rowIsOfTrial_56 : decode cX4_rowIsOfTrial 56 = .ok (.ireturn, 1) := by decide +kernel
set_option maxRecDepth 20000 in
theorem ggX4_weigh_X1_at : GoodIn wsX4_weigh wsX1_at := goodIn_r _ [10, 11, 12, 77, 78, 79, 80, 81, 82] (by decide +kernel) (by decide +kernel)
set_option maxRecDepth 20000 in
theorem gX4_weigh_X1_at : GoodIn wsX4_weigh (wsV RX4 79 RX1 yX1_at wsX1_at) := goodIn_app (goodIn_of _ (by decide +kernel)) ggX4_weigh_X1_at
set_option maxRecDepth 20000 in
theorem ggX4_weigh_X2_lacking : GoodIn wsX4_weigh wsX2_lacking := goodIn_r _ [17, 18, 19, 20, 21, 22, 23, 24, 25, 26, 16, 27, 28, 29, 30, 31, 32, 33, 83, 84, 85, 86, 87, 88, 89, 90] (by decide +kernel) (by decide +kernel)
set_option maxRecDepth 20000 in
theorem gX4_weigh_X2_lacking : GoodIn wsX4_weigh (wsV RX4 104 RX2 yX2_lacking wsX2_lacking) := goodIn_app (goodIn_of _ (by decide +kernel)) ggX4_weigh_X2_lacking
set_option maxRecDepth 20000 in
theorem ggX4_weigh_X4_throughMore : GoodIn wsX4_weigh wsX4_throughMore := goodIn_r _ [38, 39, 1, 40, 41, 42, 37, 43, 44, 3, 6, 7, 8, 9, 10, 11, 12, 45, 46, 47, 16, 48, 28, 29, 19, 18, 49, 50, 51, 52, 53, 54, 55, 56, 57, 58, 22, 59, 30, 31, 32, 33, 60, 61, 62, 63, 64, 65, 83, 84, 85, 86, 87, 88, 89, 90, 66, 67, 68, 69, 70, 71, 72, 73, 74, 75, 76, 77, 78, 79, 80, 81, 82] (by decide +kernel) (by decide +kernel)
set_option maxRecDepth 20000 in
theorem gX4_weigh_X4_throughMore : GoodIn wsX4_weigh (wsV RX4 182 RX4 yX4_throughMore wsX4_throughMore) := goodIn_app (goodIn_of _ (by decide +kernel)) ggX4_weigh_X4_throughMore
theorem dX4_weigh_0 : decode cX4_weigh 0 = .ok (.iconst 0, 1) := by decide +kernel
theorem dX4_weigh_1 : decode cX4_weigh 1 = .ok (.istore_n 2, 1) := by decide +kernel
theorem dX4_weigh_2 : decode cX4_weigh 2 = .ok (.iload_n 2, 1) := by decide +kernel
theorem dX4_weigh_3 : decode cX4_weigh 3 = .ok (.aload_n 0, 1) := by decide +kernel
theorem dX4_weigh_4 : decode cX4_weigh 4 = .ok (.getfield 10, 3) := by decide +kernel
theorem dX4_weigh_7 : decode cX4_weigh 7 = .ok (.getfield 159, 3) := by decide +kernel
theorem dX4_weigh_10 : decode cX4_weigh 10 = .ok (.if_icmp .ge 69, 3) := by decide +kernel
theorem dX4_weigh_13 : decode cX4_weigh 13 = .ok (.iload_n 2, 1) := by decide +kernel
theorem dX4_weigh_14 : decode cX4_weigh 14 = .ok (.bipush 8, 2) := by decide +kernel
theorem dX4_weigh_16 : decode cX4_weigh 16 = .ok (.if_icmp .ge 63, 3) := by decide +kernel
theorem dX4_weigh_19 : decode cX4_weigh 19 = .ok (.aload_n 0, 1) := by decide +kernel
theorem dX4_weigh_20 : decode cX4_weigh 20 = .ok (.getfield 10, 3) := by decide +kernel
theorem dX4_weigh_23 : decode cX4_weigh 23 = .ok (.iload_n 2, 1) := by decide +kernel
theorem dX4_weigh_24 : decode cX4_weigh 24 = .ok (.invokevirtual 79, 3) := by decide +kernel
theorem dX4_weigh_27 : decode cX4_weigh 27 = .ok (.getfield 89, 3) := by decide +kernel
theorem dX4_weigh_30 : decode cX4_weigh 30 = .ok (.istore_n 3, 1) := by decide +kernel
theorem dX4_weigh_31 : decode cX4_weigh 31 = .ok (.aload_n 0, 1) := by decide +kernel
theorem dX4_weigh_32 : decode cX4_weigh 32 = .ok (.getfield 10, 3) := by decide +kernel
theorem dX4_weigh_35 : decode cX4_weigh 35 = .ok (.iload_n 2, 1) := by decide +kernel
theorem dX4_weigh_36 : decode cX4_weigh 36 = .ok (.invokevirtual 79, 3) := by decide +kernel
theorem dX4_weigh_39 : decode cX4_weigh 39 = .ok (.invokevirtual 104, 3) := by decide +kernel
theorem dX4_weigh_42 : decode cX4_weigh 42 = .ok (.istore 4, 2) := by decide +kernel
theorem dX4_weigh_44 : decode cX4_weigh 44 = .ok (.aload_n 0, 1) := by decide +kernel
theorem dX4_weigh_45 : decode cX4_weigh 45 = .ok (.getfield 43, 3) := by decide +kernel
theorem dX4_weigh_48 : decode cX4_weigh 48 = .ok (.iload_n 2, 1) := by decide +kernel
theorem dX4_weigh_49 : decode cX4_weigh 49 = .ok (.aload_n 0, 1) := by decide +kernel
theorem dX4_weigh_50 : decode cX4_weigh 50 = .ok (.iload_n 2, 1) := by decide +kernel
theorem dX4_weigh_51 : decode cX4_weigh 51 = .ok (.iload_n 3, 1) := by decide +kernel
theorem dX4_weigh_52 : decode cX4_weigh 52 = .ok (.iload_n 1, 1) := by decide +kernel
theorem dX4_weigh_53 : decode cX4_weigh 53 = .ok (.invokevirtual 182, 3) := by decide +kernel
theorem dX4_weigh_56 : decode cX4_weigh 56 = .ok (.iastore, 1) := by decide +kernel
theorem dX4_weigh_57 : decode cX4_weigh 57 = .ok (.aload_n 0, 1) := by decide +kernel
theorem dX4_weigh_58 : decode cX4_weigh 58 = .ok (.getfield 46, 3) := by decide +kernel
theorem dX4_weigh_61 : decode cX4_weigh 61 = .ok (.iload_n 2, 1) := by decide +kernel
theorem dX4_weigh_62 : decode cX4_weigh 62 = .ok (.aload_n 0, 1) := by decide +kernel
theorem dX4_weigh_63 : decode cX4_weigh 63 = .ok (.iload_n 2, 1) := by decide +kernel
theorem dX4_weigh_64 : decode cX4_weigh 64 = .ok (.iload_n 3, 1) := by decide +kernel
theorem dX4_weigh_65 : decode cX4_weigh 65 = .ok (.iload 4, 2) := by decide +kernel
theorem dX4_weigh_67 : decode cX4_weigh 67 = .ok (.iadd, 1) := by decide +kernel
theorem dX4_weigh_68 : decode cX4_weigh 68 = .ok (.iload_n 1, 1) := by decide +kernel
theorem dX4_weigh_69 : decode cX4_weigh 69 = .ok (.invokevirtual 182, 3) := by decide +kernel
theorem dX4_weigh_72 : decode cX4_weigh 72 = .ok (.iastore, 1) := by decide +kernel
theorem dX4_weigh_73 : decode cX4_weigh 73 = .ok (.iinc 2 1, 3) := by decide +kernel
theorem dX4_weigh_76 : decode cX4_weigh 76 = .ok (.goto (-74), 3) := by decide +kernel
theorem dX4_weigh_79 : decode cX4_weigh 79 = .ok (.return_, 1) := by decide +kernel
theorem dX4_weighed_0 : decode cX4_weighed 0 = .ok (.iload_n 1, 1) := by decide +kernel
theorem dX4_weighed_1 : decode cX4_weighed 1 = .ok (.ifCond .lt 9, 3) := by decide +kernel
theorem dX4_weighed_4 : decode cX4_weighed 4 = .ok (.iload_n 1, 1) := by decide +kernel
theorem dX4_weighed_5 : decode cX4_weighed 5 = .ok (.bipush 8, 2) := by decide +kernel
theorem dX4_weighed_7 : decode cX4_weighed 7 = .ok (.if_icmp .lt 5, 3) := by decide +kernel
theorem dX4_weighed_10 : decode cX4_weighed 10 = .ok (.iconst 0, 1) := by decide +kernel
theorem dX4_weighed_11 : decode cX4_weighed 11 = .ok (.ireturn, 1) := by decide +kernel
theorem dX4_weighed_12 : decode cX4_weighed 12 = .ok (.iload_n 2, 1) := by decide +kernel
theorem dX4_weighed_13 : decode cX4_weighed 13 = .ok (.ifCond .eq 12, 3) := by decide +kernel
theorem dX4_weighed_16 : decode cX4_weighed 16 = .ok (.aload_n 0, 1) := by decide +kernel
theorem dX4_weighed_17 : decode cX4_weighed 17 = .ok (.getfield 46, 3) := by decide +kernel
theorem dX4_weighed_20 : decode cX4_weighed 20 = .ok (.iload_n 1, 1) := by decide +kernel
theorem dX4_weighed_21 : decode cX4_weighed 21 = .ok (.iaload, 1) := by decide +kernel
theorem dX4_weighed_22 : decode cX4_weighed 22 = .ok (.goto 9, 3) := by decide +kernel
theorem dX4_weighed_25 : decode cX4_weighed 25 = .ok (.aload_n 0, 1) := by decide +kernel
theorem dX4_weighed_26 : decode cX4_weighed 26 = .ok (.getfield 43, 3) := by decide +kernel
theorem dX4_weighed_29 : decode cX4_weighed 29 = .ok (.iload_n 1, 1) := by decide +kernel
theorem dX4_weighed_30 : decode cX4_weighed 30 = .ok (.iaload, 1) := by decide +kernel
theorem dX4_weighed_31 : decode cX4_weighed 31 = .ok (.ireturn, 1) := by decide +kernel
set_option maxRecDepth 20000 in
theorem ggX4_throughOf_X1_at : GoodIn wsX4_throughOf wsX1_at := goodIn_r _ [8, 9, 10, 50, 51, 52, 53, 54, 55] (by decide +kernel) (by decide +kernel)
set_option maxRecDepth 20000 in
theorem gX4_throughOf_X1_at : GoodIn wsX4_throughOf (wsV RX4 79 RX1 yX1_at wsX1_at) := goodIn_app (goodIn_of _ (by decide +kernel)) ggX4_throughOf_X1_at
set_option maxRecDepth 20000 in
theorem ggX4_throughOf_X2_lacking : GoodIn wsX4_throughOf wsX2_lacking := goodIn_r _ [15, 16, 17, 18, 19, 20, 21, 22, 23, 24, 14, 25, 26, 27, 28, 29, 30, 31, 56, 57, 58, 59, 60, 61, 62, 63] (by decide +kernel) (by decide +kernel)
set_option maxRecDepth 20000 in
theorem gX4_throughOf_X2_lacking : GoodIn wsX4_throughOf (wsV RX4 104 RX2 yX2_lacking wsX2_lacking) := goodIn_app (goodIn_of _ (by decide +kernel)) ggX4_throughOf_X2_lacking
set_option maxRecDepth 20000 in
theorem ggX4_throughOf_X4_weighed : GoodIn wsX4_throughOf wsX4_weighed := goodIn_r _ [36, 37, 38, 39, 40, 41, 42, 43, 44, 45, 46, 47, 48, 49] (by decide +kernel) (by decide +kernel)
set_option maxRecDepth 20000 in
theorem gX4_throughOf_X4_weighed : GoodIn wsX4_throughOf (wsV RX4 267 RX4 yX4_weighed wsX4_weighed) := goodIn_app (goodIn_of _ (by decide +kernel)) ggX4_throughOf_X4_weighed
theorem dX4_throughOf_0 : decode cX4_throughOf 0 = .ok (.aload_n 0, 1) := by decide +kernel
theorem dX4_throughOf_1 : decode cX4_throughOf 1 = .ok (.getfield 10, 3) := by decide +kernel
theorem dX4_throughOf_4 : decode cX4_throughOf 4 = .ok (.getfield 111, 3) := by decide +kernel
theorem dX4_throughOf_7 : decode cX4_throughOf 7 = .ok (.istore_n 2, 1) := by decide +kernel
theorem dX4_throughOf_8 : decode cX4_throughOf 8 = .ok (.iconst 0, 1) := by decide +kernel
theorem dX4_throughOf_9 : decode cX4_throughOf 9 = .ok (.istore_n 3, 1) := by decide +kernel
theorem dX4_throughOf_10 : decode cX4_throughOf 10 = .ok (.iconst 0, 1) := by decide +kernel
theorem dX4_throughOf_11 : decode cX4_throughOf 11 = .ok (.istore 4, 2) := by decide +kernel
theorem dX4_throughOf_13 : decode cX4_throughOf 13 = .ok (.iload 4, 2) := by decide +kernel
theorem dX4_throughOf_15 : decode cX4_throughOf 15 = .ok (.aload_n 0, 1) := by decide +kernel
theorem dX4_throughOf_16 : decode cX4_throughOf 16 = .ok (.getfield 10, 3) := by decide +kernel
theorem dX4_throughOf_19 : decode cX4_throughOf 19 = .ok (.getfield 159, 3) := by decide +kernel
theorem dX4_throughOf_22 : decode cX4_throughOf 22 = .ok (.if_icmp .ge 67, 3) := by decide +kernel
theorem dX4_throughOf_25 : decode cX4_throughOf 25 = .ok (.aload_n 0, 1) := by decide +kernel
theorem dX4_throughOf_26 : decode cX4_throughOf 26 = .ok (.getfield 10, 3) := by decide +kernel
theorem dX4_throughOf_29 : decode cX4_throughOf 29 = .ok (.iload 4, 2) := by decide +kernel
theorem dX4_throughOf_31 : decode cX4_throughOf 31 = .ok (.invokevirtual 79, 3) := by decide +kernel
theorem dX4_throughOf_34 : decode cX4_throughOf 34 = .ok (.invokevirtual 104, 3) := by decide +kernel
theorem dX4_throughOf_37 : decode cX4_throughOf 37 = .ok (.istore 5, 2) := by decide +kernel
theorem dX4_throughOf_39 : decode cX4_throughOf 39 = .ok (.iload_n 1, 1) := by decide +kernel
theorem dX4_throughOf_40 : decode cX4_throughOf 40 = .ok (.iload 4, 2) := by decide +kernel
theorem dX4_throughOf_42 : decode cX4_throughOf 42 = .ok (.ishr, 1) := by decide +kernel
theorem dX4_throughOf_43 : decode cX4_throughOf 43 = .ok (.iconst 1, 1) := by decide +kernel
theorem dX4_throughOf_44 : decode cX4_throughOf 44 = .ok (.iand, 1) := by decide +kernel
theorem dX4_throughOf_45 : decode cX4_throughOf 45 = .ok (.iconst 1, 1) := by decide +kernel
theorem dX4_throughOf_46 : decode cX4_throughOf 46 = .ok (.if_icmp .ne 13, 3) := by decide +kernel
theorem dX4_throughOf_49 : decode cX4_throughOf 49 = .ok (.iload 5, 2) := by decide +kernel
theorem dX4_throughOf_51 : decode cX4_throughOf 51 = .ok (.iload_n 2, 1) := by decide +kernel
theorem dX4_throughOf_52 : decode cX4_throughOf 52 = .ok (.if_icmp .gt 7, 3) := by decide +kernel
theorem dX4_throughOf_55 : decode cX4_throughOf 55 = .ok (.iconst 1, 1) := by decide +kernel
theorem dX4_throughOf_56 : decode cX4_throughOf 56 = .ok (.goto 4, 3) := by decide +kernel
theorem dX4_throughOf_59 : decode cX4_throughOf 59 = .ok (.iconst 0, 1) := by decide +kernel
theorem dX4_throughOf_60 : decode cX4_throughOf 60 = .ok (.istore 6, 2) := by decide +kernel
theorem dX4_throughOf_62 : decode cX4_throughOf 62 = .ok (.iload 6, 2) := by decide +kernel
theorem dX4_throughOf_64 : decode cX4_throughOf 64 = .ok (.ifCond .eq 8, 3) := by decide +kernel
theorem dX4_throughOf_67 : decode cX4_throughOf 67 = .ok (.iload_n 2, 1) := by decide +kernel
theorem dX4_throughOf_68 : decode cX4_throughOf 68 = .ok (.iload 5, 2) := by decide +kernel
theorem dX4_throughOf_70 : decode cX4_throughOf 70 = .ok (.isub, 1) := by decide +kernel
theorem dX4_throughOf_71 : decode cX4_throughOf 71 = .ok (.istore_n 2, 1) := by decide +kernel
theorem dX4_throughOf_72 : decode cX4_throughOf 72 = .ok (.iload_n 3, 1) := by decide +kernel
theorem dX4_throughOf_73 : decode cX4_throughOf 73 = .ok (.aload_n 0, 1) := by decide +kernel
theorem dX4_throughOf_74 : decode cX4_throughOf 74 = .ok (.iload 4, 2) := by decide +kernel
theorem dX4_throughOf_76 : decode cX4_throughOf 76 = .ok (.iload 6, 2) := by decide +kernel
theorem dX4_throughOf_78 : decode cX4_throughOf 78 = .ok (.invokevirtual 267, 3) := by decide +kernel
theorem dX4_throughOf_81 : decode cX4_throughOf 81 = .ok (.iadd, 1) := by decide +kernel
theorem dX4_throughOf_82 : decode cX4_throughOf 82 = .ok (.istore_n 3, 1) := by decide +kernel
theorem dX4_throughOf_83 : decode cX4_throughOf 83 = .ok (.iinc 4 1, 3) := by decide +kernel
theorem dX4_throughOf_86 : decode cX4_throughOf 86 = .ok (.goto (-73), 3) := by decide +kernel
theorem dX4_throughOf_89 : decode cX4_throughOf 89 = .ok (.iload_n 3, 1) := by decide +kernel
theorem dX4_throughOf_90 : decode cX4_throughOf 90 = .ok (.ireturn, 1) := by decide +kernel
set_option maxRecDepth 20000 in
theorem ggX4_firstWants_X4_wants : GoodIn wsX4_firstWants wsX4_wants := goodIn_r _ [7, 1, 8, 9, 10, 11, 12, 13, 14, 15, 16, 17, 18, 19, 20, 21, 22, 23, 24, 25, 26, 27, 28, 29, 30, 31, 32, 33, 34, 35, 36, 37, 38, 6, 39, 40, 41, 42, 43, 44, 45, 46, 47, 48, 49, 50, 51, 52, 53, 54, 55, 56, 57, 58, 59, 60, 61, 62, 63, 64, 65, 66] (by decide +kernel) (by decide +kernel)
set_option maxRecDepth 20000 in
theorem gX4_firstWants_X4_wants : GoodIn wsX4_firstWants (wsV RX4 271 RX4 yX4_wants wsX4_wants) := goodIn_app (goodIn_of _ (by decide +kernel)) ggX4_firstWants_X4_wants
theorem dX4_firstWants_0 : decode cX4_firstWants 0 = .ok (.aload_n 0, 1) := by decide +kernel
theorem dX4_firstWants_1 : decode cX4_firstWants 1 = .ok (.iload_n 1, 1) := by decide +kernel
theorem dX4_firstWants_2 : decode cX4_firstWants 2 = .ok (.iload_n 2, 1) := by decide +kernel
theorem dX4_firstWants_3 : decode cX4_firstWants 3 = .ok (.aload_n 0, 1) := by decide +kernel
theorem dX4_firstWants_4 : decode cX4_firstWants 4 = .ok (.getfield 10, 3) := by decide +kernel
theorem dX4_firstWants_7 : decode cX4_firstWants 7 = .ok (.getfield 111, 3) := by decide +kernel
theorem dX4_firstWants_10 : decode cX4_firstWants 10 = .ok (.invokevirtual 271, 3) := by decide +kernel
theorem dX4_firstWants_13 : decode cX4_firstWants 13 = .ok (.ireturn, 1) := by decide +kernel
set_option maxRecDepth 20000 in
theorem ggX4_otherWants_X1_at : GoodIn wsX4_otherWants wsX1_at := goodIn_r _ [7, 8, 9, 53, 54, 55, 56, 57, 58] (by decide +kernel) (by decide +kernel)
set_option maxRecDepth 20000 in
theorem gX4_otherWants_X1_at : GoodIn wsX4_otherWants (wsV RX4 79 RX1 yX1_at wsX1_at) := goodIn_app (goodIn_of _ (by decide +kernel)) ggX4_otherWants_X1_at
set_option maxRecDepth 20000 in
theorem ggX4_otherWants_X2_lacking : GoodIn wsX4_otherWants wsX2_lacking := goodIn_r _ [14, 15, 16, 17, 18, 19, 20, 21, 22, 23, 13, 24, 25, 26, 27, 28, 29, 30, 59, 60, 61, 62, 63, 64, 65, 66] (by decide +kernel) (by decide +kernel)
set_option maxRecDepth 20000 in
theorem gX4_otherWants_X2_lacking : GoodIn wsX4_otherWants (wsV RX4 104 RX2 yX2_lacking wsX2_lacking) := goodIn_app (goodIn_of _ (by decide +kernel)) ggX4_otherWants_X2_lacking
set_option maxRecDepth 20000 in
theorem ggX4_otherWants_X4_wants : GoodIn wsX4_otherWants wsX4_wants := goodIn_r _ [35, 1, 3, 4, 5, 6, 7, 8, 9, 10, 11, 12, 13, 14, 15, 16, 17, 18, 19, 20, 21, 22, 23, 24, 25, 26, 27, 28, 29, 30, 36, 37, 38, 34, 39, 40, 41, 42, 43, 44, 45, 46, 47, 48, 49, 50, 51, 52, 53, 54, 55, 56, 57, 58, 59, 60, 61, 62, 63, 64, 65, 66] (by decide +kernel) (by decide +kernel)
set_option maxRecDepth 20000 in
theorem gX4_otherWants_X4_wants : GoodIn wsX4_otherWants (wsV RX4 271 RX4 yX4_wants wsX4_wants) := goodIn_app (goodIn_of _ (by decide +kernel)) ggX4_otherWants_X4_wants
theorem dX4_otherWants_0 : decode cX4_otherWants 0 = .ok (.aload_n 0, 1) := by decide +kernel
theorem dX4_otherWants_1 : decode cX4_otherWants 1 = .ok (.getfield 10, 3) := by decide +kernel
theorem dX4_otherWants_4 : decode cX4_otherWants 4 = .ok (.iload_n 1, 1) := by decide +kernel
theorem dX4_otherWants_5 : decode cX4_otherWants 5 = .ok (.invokevirtual 79, 3) := by decide +kernel
theorem dX4_otherWants_8 : decode cX4_otherWants 8 = .ok (.invokevirtual 104, 3) := by decide +kernel
theorem dX4_otherWants_11 : decode cX4_otherWants 11 = .ok (.istore 5, 2) := by decide +kernel
theorem dX4_otherWants_13 : decode cX4_otherWants 13 = .ok (.iload_n 2, 1) := by decide +kernel
theorem dX4_otherWants_14 : decode cX4_otherWants 14 = .ok (.iconst 1, 1) := by decide +kernel
theorem dX4_otherWants_15 : decode cX4_otherWants 15 = .ok (.if_icmp .ne 19, 3) := by decide +kernel
theorem dX4_otherWants_18 : decode cX4_otherWants 18 = .ok (.iload 5, 2) := by decide +kernel
theorem dX4_otherWants_20 : decode cX4_otherWants 20 = .ok (.aload_n 0, 1) := by decide +kernel
theorem dX4_otherWants_21 : decode cX4_otherWants 21 = .ok (.getfield 10, 3) := by decide +kernel
theorem dX4_otherWants_24 : decode cX4_otherWants 24 = .ok (.getfield 111, 3) := by decide +kernel
theorem dX4_otherWants_27 : decode cX4_otherWants 27 = .ok (.if_icmp .gt 7, 3) := by decide +kernel
theorem dX4_otherWants_30 : decode cX4_otherWants 30 = .ok (.iconst 1, 1) := by decide +kernel
theorem dX4_otherWants_31 : decode cX4_otherWants 31 = .ok (.goto 4, 3) := by decide +kernel
theorem dX4_otherWants_34 : decode cX4_otherWants 34 = .ok (.iconst 0, 1) := by decide +kernel
theorem dX4_otherWants_35 : decode cX4_otherWants 35 = .ok (.istore 6, 2) := by decide +kernel
theorem dX4_otherWants_37 : decode cX4_otherWants 37 = .ok (.aload_n 0, 1) := by decide +kernel
theorem dX4_otherWants_38 : decode cX4_otherWants 38 = .ok (.iload_n 3, 1) := by decide +kernel
theorem dX4_otherWants_39 : decode cX4_otherWants 39 = .ok (.iload 4, 2) := by decide +kernel
theorem dX4_otherWants_41 : decode cX4_otherWants 41 = .ok (.iload 6, 2) := by decide +kernel
theorem dX4_otherWants_43 : decode cX4_otherWants 43 = .ok (.ifCond .eq 16, 3) := by decide +kernel
theorem dX4_otherWants_46 : decode cX4_otherWants 46 = .ok (.aload_n 0, 1) := by decide +kernel
theorem dX4_otherWants_47 : decode cX4_otherWants 47 = .ok (.getfield 10, 3) := by decide +kernel
theorem dX4_otherWants_50 : decode cX4_otherWants 50 = .ok (.getfield 111, 3) := by decide +kernel
theorem dX4_otherWants_53 : decode cX4_otherWants 53 = .ok (.iload 5, 2) := by decide +kernel
theorem dX4_otherWants_55 : decode cX4_otherWants 55 = .ok (.isub, 1) := by decide +kernel
theorem dX4_otherWants_56 : decode cX4_otherWants 56 = .ok (.goto 10, 3) := by decide +kernel
theorem dX4_otherWants_59 : decode cX4_otherWants 59 = .ok (.aload_n 0, 1) := by decide +kernel
theorem dX4_otherWants_60 : decode cX4_otherWants 60 = .ok (.getfield 10, 3) := by decide +kernel
theorem dX4_otherWants_63 : decode cX4_otherWants 63 = .ok (.getfield 111, 3) := by decide +kernel
theorem dX4_otherWants_66 : decode cX4_otherWants 66 = .ok (.invokevirtual 271, 3) := by decide +kernel
theorem dX4_otherWants_69 : decode cX4_otherWants 69 = .ok (.ireturn, 1) := by decide +kernel
set_option maxRecDepth 20000 in
theorem ggX4_wants_X1_at : GoodIn wsX4_wants wsX1_at := goodIn_r _ [6, 7, 8, 48, 49, 50, 51, 52, 53] (by decide +kernel) (by decide +kernel)
set_option maxRecDepth 20000 in
theorem gX4_wants_X1_at : GoodIn wsX4_wants (wsV RX4 79 RX1 yX1_at wsX1_at) := goodIn_app (goodIn_of _ (by decide +kernel)) ggX4_wants_X1_at
set_option maxRecDepth 20000 in
theorem ggX4_wants_X2_lacking : GoodIn wsX4_wants wsX2_lacking := goodIn_r _ [13, 14, 15, 16, 17, 18, 19, 20, 21, 22, 12, 23, 24, 25, 26, 27, 28, 29, 54, 55, 56, 57, 58, 59, 60, 61] (by decide +kernel) (by decide +kernel)
set_option maxRecDepth 20000 in
theorem gX4_wants_X2_lacking : GoodIn wsX4_wants (wsV RX4 104 RX2 yX2_lacking wsX2_lacking) := goodIn_app (goodIn_of _ (by decide +kernel)) ggX4_wants_X2_lacking
set_option maxRecDepth 20000 in
theorem ggX4_wants_X4_weighed : GoodIn wsX4_wants wsX4_weighed := goodIn_r _ [34, 35, 36, 37, 38, 39, 40, 41, 42, 43, 44, 45, 46, 47] (by decide +kernel) (by decide +kernel)
set_option maxRecDepth 20000 in
theorem gX4_wants_X4_weighed : GoodIn wsX4_wants (wsV RX4 267 RX4 yX4_weighed wsX4_weighed) := goodIn_app (goodIn_of _ (by decide +kernel)) ggX4_wants_X4_weighed
theorem dX4_wants_0 : decode cX4_wants 0 = .ok (.aload_n 0, 1) := by decide +kernel
theorem dX4_wants_1 : decode cX4_wants 1 = .ok (.getfield 10, 3) := by decide +kernel
theorem dX4_wants_4 : decode cX4_wants 4 = .ok (.iload_n 1, 1) := by decide +kernel
theorem dX4_wants_5 : decode cX4_wants 5 = .ok (.invokevirtual 79, 3) := by decide +kernel
theorem dX4_wants_8 : decode cX4_wants 8 = .ok (.invokevirtual 104, 3) := by decide +kernel
theorem dX4_wants_11 : decode cX4_wants 11 = .ok (.istore 4, 2) := by decide +kernel
theorem dX4_wants_13 : decode cX4_wants 13 = .ok (.iload_n 2, 1) := by decide +kernel
theorem dX4_wants_14 : decode cX4_wants 14 = .ok (.iconst 1, 1) := by decide +kernel
theorem dX4_wants_15 : decode cX4_wants 15 = .ok (.if_icmp .ne 13, 3) := by decide +kernel
theorem dX4_wants_18 : decode cX4_wants 18 = .ok (.iload 4, 2) := by decide +kernel
theorem dX4_wants_20 : decode cX4_wants 20 = .ok (.iload_n 3, 1) := by decide +kernel
theorem dX4_wants_21 : decode cX4_wants 21 = .ok (.if_icmp .gt 7, 3) := by decide +kernel
theorem dX4_wants_24 : decode cX4_wants 24 = .ok (.iconst 1, 1) := by decide +kernel
theorem dX4_wants_25 : decode cX4_wants 25 = .ok (.goto 4, 3) := by decide +kernel
theorem dX4_wants_28 : decode cX4_wants 28 = .ok (.iconst 0, 1) := by decide +kernel
theorem dX4_wants_29 : decode cX4_wants 29 = .ok (.istore 5, 2) := by decide +kernel
theorem dX4_wants_31 : decode cX4_wants 31 = .ok (.aload_n 0, 1) := by decide +kernel
theorem dX4_wants_32 : decode cX4_wants 32 = .ok (.iload_n 1, 1) := by decide +kernel
theorem dX4_wants_33 : decode cX4_wants 33 = .ok (.iload 5, 2) := by decide +kernel
theorem dX4_wants_35 : decode cX4_wants 35 = .ok (.invokevirtual 267, 3) := by decide +kernel
theorem dX4_wants_38 : decode cX4_wants 38 = .ok (.iload 5, 2) := by decide +kernel
theorem dX4_wants_40 : decode cX4_wants 40 = .ok (.ifCond .eq 11, 3) := by decide +kernel
theorem dX4_wants_43 : decode cX4_wants 43 = .ok (.iload 4, 2) := by decide +kernel
theorem dX4_wants_45 : decode cX4_wants 45 = .ok (.bipush 10, 2) := by decide +kernel
theorem dX4_wants_47 : decode cX4_wants 47 = .ok (.idiv, 1) := by decide +kernel
theorem dX4_wants_48 : decode cX4_wants 48 = .ok (.goto 4, 3) := by decide +kernel
theorem dX4_wants_51 : decode cX4_wants 51 = .ok (.iconst 0, 1) := by decide +kernel
theorem dX4_wants_52 : decode cX4_wants 52 = .ok (.isub, 1) := by decide +kernel
theorem dX4_wants_53 : decode cX4_wants 53 = .ok (.ireturn, 1) := by decide +kernel
theorem dX4_power_0 : decode cX4_power 0 = .ok (.lconst 1, 1) := by decide +kernel
theorem dX4_power_1 : decode cX4_power 1 = .ok (.lstore_n 3, 1) := by decide +kernel
theorem dX4_power_2 : decode cX4_power 2 = .ok (.iconst 0, 1) := by decide +kernel
theorem dX4_power_3 : decode cX4_power 3 = .ok (.istore 5, 2) := by decide +kernel
theorem dX4_power_5 : decode cX4_power 5 = .ok (.iload 5, 2) := by decide +kernel
theorem dX4_power_7 : decode cX4_power 7 = .ok (.iload_n 2, 1) := by decide +kernel
theorem dX4_power_8 : decode cX4_power 8 = .ok (.if_icmp .ge 13, 3) := by decide +kernel
theorem dX4_power_11 : decode cX4_power 11 = .ok (.lload_n 3, 1) := by decide +kernel
theorem dX4_power_12 : decode cX4_power 12 = .ok (.lload_n 0, 1) := by decide +kernel
theorem dX4_power_13 : decode cX4_power 13 = .ok (.lmul, 1) := by decide +kernel
theorem dX4_power_14 : decode cX4_power 14 = .ok (.lstore_n 3, 1) := by decide +kernel
theorem dX4_power_15 : decode cX4_power 15 = .ok (.iinc 5 1, 3) := by decide +kernel
theorem dX4_power_18 : decode cX4_power 18 = .ok (.goto (-13), 3) := by decide +kernel
theorem dX4_power_21 : decode cX4_power 21 = .ok (.lload_n 3, 1) := by decide +kernel
theorem dX4_power_22 : decode cX4_power 22 = .ok (.lreturn, 1) := by decide +kernel
theorem dX4_leastTerms_0 : decode cX4_leastTerms 0 = .ok (.lload_n 0, 1) := by decide +kernel
theorem dX4_leastTerms_1 : decode cX4_leastTerms 1 = .ok (.lconst 0, 1) := by decide +kernel
theorem dX4_leastTerms_2 : decode cX4_leastTerms 2 = .ok (.lcmp, 1) := by decide +kernel
theorem dX4_leastTerms_3 : decode cX4_leastTerms 3 = .ok (.ifCond .eq 9, 3) := by decide +kernel
theorem dX4_leastTerms_6 : decode cX4_leastTerms 6 = .ok (.lload_n 2, 1) := by decide +kernel
theorem dX4_leastTerms_7 : decode cX4_leastTerms 7 = .ok (.lconst 0, 1) := by decide +kernel
theorem dX4_leastTerms_8 : decode cX4_leastTerms 8 = .ok (.lcmp, 1) := by decide +kernel
theorem dX4_leastTerms_9 : decode cX4_leastTerms 9 = .ok (.ifCond .ne 7, 3) := by decide +kernel
theorem dX4_leastTerms_12 : decode cX4_leastTerms 12 = .ok (.iload 4, 2) := by decide +kernel
theorem dX4_leastTerms_14 : decode cX4_leastTerms 14 = .ok (.i2l, 1) := by decide +kernel
theorem dX4_leastTerms_15 : decode cX4_leastTerms 15 = .ok (.lreturn, 1) := by decide +kernel
theorem dX4_leastTerms_16 : decode cX4_leastTerms 16 = .ok (.lload_n 0, 1) := by decide +kernel
theorem dX4_leastTerms_17 : decode cX4_leastTerms 17 = .ok (.lstore 5, 2) := by decide +kernel
theorem dX4_leastTerms_19 : decode cX4_leastTerms 19 = .ok (.lload_n 2, 1) := by decide +kernel
theorem dX4_leastTerms_20 : decode cX4_leastTerms 20 = .ok (.lstore 7, 2) := by decide +kernel
theorem dX4_leastTerms_22 : decode cX4_leastTerms 22 = .ok (.iconst 0, 1) := by decide +kernel
theorem dX4_leastTerms_23 : decode cX4_leastTerms 23 = .ok (.istore 9, 2) := by decide +kernel
theorem dX4_leastTerms_25 : decode cX4_leastTerms 25 = .ok (.iload 9, 2) := by decide +kernel
theorem dX4_leastTerms_27 : decode cX4_leastTerms 27 = .ok (.bipush 100, 2) := by decide +kernel
theorem dX4_leastTerms_29 : decode cX4_leastTerms 29 = .ok (.if_icmp .ge 31, 3) := by decide +kernel
theorem dX4_leastTerms_32 : decode cX4_leastTerms 32 = .ok (.lload 7, 2) := by decide +kernel
theorem dX4_leastTerms_34 : decode cX4_leastTerms 34 = .ok (.lconst 0, 1) := by decide +kernel
theorem dX4_leastTerms_35 : decode cX4_leastTerms 35 = .ok (.lcmp, 1) := by decide +kernel
theorem dX4_leastTerms_36 : decode cX4_leastTerms 36 = .ok (.ifCond .eq 24, 3) := by decide +kernel
theorem dX4_leastTerms_39 : decode cX4_leastTerms 39 = .ok (.lload 5, 2) := by decide +kernel
theorem dX4_leastTerms_41 : decode cX4_leastTerms 41 = .ok (.lload 7, 2) := by decide +kernel
theorem dX4_leastTerms_43 : decode cX4_leastTerms 43 = .ok (.lrem, 1) := by decide +kernel
theorem dX4_leastTerms_44 : decode cX4_leastTerms 44 = .ok (.lstore 10, 2) := by decide +kernel
theorem dX4_leastTerms_46 : decode cX4_leastTerms 46 = .ok (.lload 7, 2) := by decide +kernel
theorem dX4_leastTerms_48 : decode cX4_leastTerms 48 = .ok (.lstore 5, 2) := by decide +kernel
theorem dX4_leastTerms_50 : decode cX4_leastTerms 50 = .ok (.lload 10, 2) := by decide +kernel
theorem dX4_leastTerms_52 : decode cX4_leastTerms 52 = .ok (.lstore 7, 2) := by decide +kernel
theorem dX4_leastTerms_54 : decode cX4_leastTerms 54 = .ok (.iinc 9 1, 3) := by decide +kernel
theorem dX4_leastTerms_57 : decode cX4_leastTerms 57 = .ok (.goto (-32), 3) := by decide +kernel
theorem dX4_leastTerms_60 : decode cX4_leastTerms 60 = .ok (.lload 5, 2) := by decide +kernel
theorem dX4_leastTerms_62 : decode cX4_leastTerms 62 = .ok (.lconst 0, 1) := by decide +kernel
theorem dX4_leastTerms_63 : decode cX4_leastTerms 63 = .ok (.lcmp, 1) := by decide +kernel
theorem dX4_leastTerms_64 : decode cX4_leastTerms 64 = .ok (.ifCond .ne 7, 3) := by decide +kernel
theorem dX4_leastTerms_67 : decode cX4_leastTerms 67 = .ok (.iload 4, 2) := by decide +kernel
theorem dX4_leastTerms_69 : decode cX4_leastTerms 69 = .ok (.i2l, 1) := by decide +kernel
theorem dX4_leastTerms_70 : decode cX4_leastTerms 70 = .ok (.lreturn, 1) := by decide +kernel
theorem dX4_leastTerms_71 : decode cX4_leastTerms 71 = .ok (.iload 4, 2) := by decide +kernel
theorem dX4_leastTerms_73 : decode cX4_leastTerms 73 = .ok (.ifCond .ne 10, 3) := by decide +kernel
theorem dX4_leastTerms_76 : decode cX4_leastTerms 76 = .ok (.lload_n 0, 1) := by decide +kernel
theorem dX4_leastTerms_77 : decode cX4_leastTerms 77 = .ok (.lload 5, 2) := by decide +kernel
theorem dX4_leastTerms_79 : decode cX4_leastTerms 79 = .ok (.ldiv, 1) := by decide +kernel
theorem dX4_leastTerms_80 : decode cX4_leastTerms 80 = .ok (.goto 7, 3) := by decide +kernel
theorem dX4_leastTerms_83 : decode cX4_leastTerms 83 = .ok (.lload_n 2, 1) := by decide +kernel
theorem dX4_leastTerms_84 : decode cX4_leastTerms 84 = .ok (.lload 5, 2) := by decide +kernel
theorem dX4_leastTerms_86 : decode cX4_leastTerms 86 = .ok (.ldiv, 1) := by decide +kernel
theorem dX4_leastTerms_87 : decode cX4_leastTerms 87 = .ok (.lreturn, 1) := by decide +kernel
theorem dX5_init_0 : decode cX5_init 0 = .ok (.aload_n 0, 1) := by decide +kernel
theorem dX5_init_1 : decode cX5_init 1 = .ok (.invokespecial 1, 3) := by decide +kernel
theorem dX5_init_4 : decode cX5_init 4 = .ok (.aload_n 0, 1) := by decide +kernel
theorem dX5_init_5 : decode cX5_init 5 = .ok (.bipush 52, 2) := by decide +kernel
theorem dX5_init_7 : decode cX5_init 7 = .ok (.newarray .int, 2) := by decide +kernel
theorem dX5_init_9 : decode cX5_init 9 = .ok (.putfield 9, 3) := by decide +kernel
theorem dX5_init_12 : decode cX5_init 12 = .ok (.aload_n 0, 1) := by decide +kernel
theorem dX5_init_13 : decode cX5_init 13 = .ok (.bipush 52, 2) := by decide +kernel
theorem dX5_init_15 : decode cX5_init 15 = .ok (.newarray .int, 2) := by decide +kernel
theorem dX5_init_17 : decode cX5_init 17 = .ok (.putfield 13, 3) := by decide +kernel
theorem dX5_init_20 : decode cX5_init 20 = .ok (.aload_n 0, 1) := by decide +kernel
theorem dX5_init_21 : decode cX5_init 21 = .ok (.bipush 52, 2) := by decide +kernel
theorem dX5_init_23 : decode cX5_init 23 = .ok (.newarray .int, 2) := by decide +kernel
theorem dX5_init_25 : decode cX5_init 25 = .ok (.putfield 16, 3) := by decide +kernel
theorem dX5_init_28 : decode cX5_init 28 = .ok (.aload_n 0, 1) := by decide +kernel
theorem dX5_init_29 : decode cX5_init 29 = .ok (.bipush 52, 2) := by decide +kernel
theorem dX5_init_31 : decode cX5_init 31 = .ok (.newarray .int, 2) := by decide +kernel
theorem dX5_init_33 : decode cX5_init 33 = .ok (.putfield 19, 3) := by decide +kernel
theorem dX5_init_36 : decode cX5_init 36 = .ok (.aload_n 0, 1) := by decide +kernel
theorem dX5_init_37 : decode cX5_init 37 = .ok (.bipush 96, 2) := by decide +kernel
theorem dX5_init_39 : decode cX5_init 39 = .ok (.newarray .int, 2) := by decide +kernel
theorem dX5_init_41 : decode cX5_init 41 = .ok (.putfield 22, 3) := by decide +kernel
theorem dX5_init_44 : decode cX5_init 44 = .ok (.aload_n 0, 1) := by decide +kernel
theorem dX5_init_45 : decode cX5_init 45 = .ok (.bipush 16, 2) := by decide +kernel
theorem dX5_init_47 : decode cX5_init 47 = .ok (.newarray .int, 2) := by decide +kernel
theorem dX5_init_49 : decode cX5_init 49 = .ok (.putfield 25, 3) := by decide +kernel
theorem dX5_init_52 : decode cX5_init 52 = .ok (.aload_n 0, 1) := by decide +kernel
theorem dX5_init_53 : decode cX5_init 53 = .ok (.bipush 7, 2) := by decide +kernel
theorem dX5_init_55 : decode cX5_init 55 = .ok (.newarray .int, 2) := by decide +kernel
theorem dX5_init_57 : decode cX5_init 57 = .ok (.putfield 28, 3) := by decide +kernel
theorem dX5_init_60 : decode cX5_init 60 = .ok (.aload_n 0, 1) := by decide +kernel
theorem dX5_init_61 : decode cX5_init 61 = .ok (.iconst 3, 1) := by decide +kernel
theorem dX5_init_62 : decode cX5_init 62 = .ok (.newarray .int, 2) := by decide +kernel
theorem dX5_init_64 : decode cX5_init 64 = .ok (.putfield 31, 3) := by decide +kernel
theorem dX5_init_67 : decode cX5_init 67 = .ok (.return_, 1) := by decide +kernel
theorem dX5_isIn_0 : decode cX5_isIn 0 = .ok (.iload_n 0, 1) := by decide +kernel
theorem dX5_isIn_1 : decode cX5_isIn 1 = .ok (.iload_n 1, 1) := by decide +kernel
theorem dX5_isIn_2 : decode cX5_isIn 2 = .ok (.if_icmp .lt 12, 3) := by decide +kernel
theorem dX5_isIn_5 : decode cX5_isIn 5 = .ok (.iload_n 0, 1) := by decide +kernel
theorem dX5_isIn_6 : decode cX5_isIn 6 = .ok (.iload_n 2, 1) := by decide +kernel
theorem dX5_isIn_7 : decode cX5_isIn 7 = .ok (.if_icmp .gt 7, 3) := by decide +kernel
theorem dX5_isIn_10 : decode cX5_isIn 10 = .ok (.iconst 1, 1) := by decide +kernel
theorem dX5_isIn_11 : decode cX5_isIn 11 = .ok (.goto 4, 3) := by decide +kernel
theorem dX5_isIn_14 : decode cX5_isIn 14 = .ok (.iconst 0, 1) := by decide +kernel
theorem dX5_isIn_15 : decode cX5_isIn 15 = .ok (.ireturn, 1) := by decide +kernel
theorem dX5_least_0 : decode cX5_least 0 = .ok (.iload_n 0, 1) := by decide +kernel
theorem dX5_least_1 : decode cX5_least 1 = .ok (.iload_n 1, 1) := by decide +kernel
theorem dX5_least_2 : decode cX5_least 2 = .ok (.if_icmp .ge 7, 3) := by decide +kernel
theorem dX5_least_5 : decode cX5_least 5 = .ok (.iload_n 0, 1) := by decide +kernel
theorem dX5_least_6 : decode cX5_least 6 = .ok (.goto 4, 3) := by decide +kernel
theorem dX5_least_9 : decode cX5_least 9 = .ok (.iload_n 1, 1) := by decide +kernel
theorem dX5_least_10 : decode cX5_least 10 = .ok (.ireturn, 1) := by decide +kernel
theorem dX5_copies_0 : decode cX5_copies 0 = .ok (.iconst 0, 1) := by decide +kernel
theorem dX5_copies_1 : decode cX5_copies 1 = .ok (.istore_n 2, 1) := by decide +kernel
theorem dX5_copies_2 : decode cX5_copies 2 = .ok (.iload_n 2, 1) := by decide +kernel
theorem dX5_copies_3 : decode cX5_copies 3 = .ok (.bipush 52, 2) := by decide +kernel
theorem dX5_copies_5 : decode cX5_copies 5 = .ok (.if_icmp .ge 15, 3) := by decide +kernel
theorem dX5_copies_8 : decode cX5_copies 8 = .ok (.aload_n 1, 1) := by decide +kernel
theorem dX5_copies_9 : decode cX5_copies 9 = .ok (.iload_n 2, 1) := by decide +kernel
theorem dX5_copies_10 : decode cX5_copies 10 = .ok (.aload_n 0, 1) := by decide +kernel
theorem dX5_copies_11 : decode cX5_copies 11 = .ok (.iload_n 2, 1) := by decide +kernel
theorem dX5_copies_12 : decode cX5_copies 12 = .ok (.iaload, 1) := by decide +kernel
theorem dX5_copies_13 : decode cX5_copies 13 = .ok (.iastore, 1) := by decide +kernel
theorem dX5_copies_14 : decode cX5_copies 14 = .ok (.iinc 2 1, 3) := by decide +kernel
theorem dX5_copies_17 : decode cX5_copies 17 = .ok (.goto (-15), 3) := by decide +kernel
theorem dX5_copies_20 : decode cX5_copies 20 = .ok (.return_, 1) := by decide +kernel
theorem dX5_no_0 : decode cX5_no 0 = .ok (.aload_n 0, 1) := by decide +kernel
theorem dX5_no_1 : decode cX5_no 1 = .ok (.getfield 28, 3) := by decide +kernel
theorem dX5_no_4 : decode cX5_no 4 = .ok (.iload_n 1, 1) := by decide +kernel
theorem dX5_no_5 : decode cX5_no 5 = .ok (.ineg, 1) := by decide +kernel
theorem dX5_no_6 : decode cX5_no 6 = .ok (.dup2, 1) := by decide +kernel
theorem dX5_no_7 : decode cX5_no 7 = .ok (.iaload, 1) := by decide +kernel
theorem dX5_no_8 : decode cX5_no 8 = .ok (.iconst 1, 1) := by decide +kernel
theorem dX5_no_9 : decode cX5_no 9 = .ok (.iadd, 1) := by decide +kernel
theorem dX5_no_10 : decode cX5_no 10 = .ok (.iastore, 1) := by decide +kernel
theorem dX5_no_11 : decode cX5_no 11 = .ok (.iload_n 1, 1) := by decide +kernel
theorem dX5_no_12 : decode cX5_no 12 = .ok (.ireturn, 1) := by decide +kernel
set_option maxRecDepth 20000 in
theorem ggX5_noFar_X5_no : GoodIn wsX5_noFar wsX5_no := goodIn_r _ [6, 7, 8, 9, 10, 11, 12, 13, 14, 15, 16, 17, 18, 19, 20] (by decide +kernel) (by decide +kernel)
set_option maxRecDepth 20000 in
theorem gX5_noFar_X5_no : GoodIn wsX5_noFar (wsV RX5 35 RX5 yX5_no wsX5_no) := goodIn_app (goodIn_of _ (by decide +kernel)) ggX5_noFar_X5_no
theorem dX5_noFar_0 : decode cX5_noFar 0 = .ok (.ldc 34, 2) := by decide +kernel
theorem dX5_noFar_2 : decode cX5_noFar 2 = .ok (.aload_n 0, 1) := by decide +kernel
theorem dX5_noFar_3 : decode cX5_noFar 3 = .ok (.iload_n 1, 1) := by decide +kernel
theorem dX5_noFar_4 : decode cX5_noFar 4 = .ok (.invokevirtual 35, 3) := by decide +kernel
theorem dX5_noFar_7 : decode cX5_noFar 7 = .ok (.isub, 1) := by decide +kernel
theorem dX5_noFar_8 : decode cX5_noFar 8 = .ok (.ireturn, 1) := by decide +kernel
set_option maxRecDepth 20000 in
theorem ggX5_noWide_X5_no : GoodIn wsX5_noWide wsX5_no := goodIn_r _ [6, 7, 8, 9, 10, 11, 12, 13, 14, 15, 16, 17, 18, 19, 20] (by decide +kernel) (by decide +kernel)
set_option maxRecDepth 20000 in
theorem gX5_noWide_X5_no : GoodIn wsX5_noWide (wsV RX5 35 RX5 yX5_no wsX5_no) := goodIn_app (goodIn_of _ (by decide +kernel)) ggX5_noWide_X5_no
theorem dX5_noWide_0 : decode cX5_noWide 0 = .ok (.ldc2_w 39, 3) := by decide +kernel
theorem dX5_noWide_3 : decode cX5_noWide 3 = .ok (.aload_n 0, 1) := by decide +kernel
theorem dX5_noWide_4 : decode cX5_noWide 4 = .ok (.iload_n 1, 1) := by decide +kernel
theorem dX5_noWide_5 : decode cX5_noWide 5 = .ok (.invokevirtual 35, 3) := by decide +kernel
theorem dX5_noWide_8 : decode cX5_noWide 8 = .ok (.i2l, 1) := by decide +kernel
theorem dX5_noWide_9 : decode cX5_noWide 9 = .ok (.lsub, 1) := by decide +kernel
theorem dX5_noWide_10 : decode cX5_noWide 10 = .ok (.lreturn, 1) := by decide +kernel
theorem dX5_of_0 : decode cX5_of 0 = .ok (.iconst 4, 1) := by decide +kernel
theorem dX5_of_1 : decode cX5_of 1 = .ok (.bipush 6, 2) := by decide +kernel
theorem dX5_of_3 : decode cX5_of 3 = .ok (.iload_n 0, 1) := by decide +kernel
theorem dX5_of_4 : decode cX5_of 4 = .ok (.imul, 1) := by decide +kernel
theorem dX5_of_5 : decode cX5_of 5 = .ok (.iadd, 1) := by decide +kernel
theorem dX5_of_6 : decode cX5_of 6 = .ok (.iload_n 1, 1) := by decide +kernel
theorem dX5_of_7 : decode cX5_of 7 = .ok (.iadd, 1) := by decide +kernel
theorem dX5_of_8 : decode cX5_of 8 = .ok (.ireturn, 1) := by decide +kernel
set_option maxRecDepth 20000 in
theorem ggX5_isOne_X5_isIn : GoodIn wsX5_isOne wsX5_isIn := goodIn_r _ [5] (by decide +kernel) (by decide +kernel)
set_option maxRecDepth 20000 in
theorem gX5_isOne_X5_isIn : GoodIn wsX5_isOne (va_wsS RX5 41 yX5_isIn wsX5_isIn) := goodIn_app (goodIn_of _ (by decide +kernel)) ggX5_isOne_X5_isIn
theorem dX5_isOne_0 : decode cX5_isOne 0 = .ok (.iload_n 1, 1) := by decide +kernel
theorem dX5_isOne_1 : decode cX5_isOne 1 = .ok (.iconst 0, 1) := by decide +kernel
theorem dX5_isOne_2 : decode cX5_isOne 2 = .ok (.aload_n 0, 1) := by decide +kernel
theorem dX5_isOne_3 : decode cX5_isOne 3 = .ok (.getfield 9, 3) := by decide +kernel
theorem dX5_isOne_6 : decode cX5_isOne 6 = .ok (.iconst 0, 1) := by decide +kernel
theorem dX5_isOne_7 : decode cX5_isOne 7 = .ok (.iaload, 1) := by decide +kernel
theorem dX5_isOne_8 : decode cX5_isOne 8 = .ok (.iconst 1, 1) := by decide +kernel
theorem dX5_isOne_9 : decode cX5_isOne 9 = .ok (.isub, 1) := by decide +kernel
theorem dX5_isOne_10 : decode cX5_isOne 10 = .ok (.invokestatic 41, 3) := by decide +kernel
theorem dX5_isOne_13 : decode cX5_isOne 13 = .ok (.ireturn, 1) := by decide +kernel
theorem dX5_has_0 : decode cX5_has 0 = .ok (.iload_n 0, 1) := by decide +kernel
theorem dX5_has_1 : decode cX5_has 1 = .ok (.iload_n 1, 1) := by decide +kernel
theorem dX5_has_2 : decode cX5_has 2 = .ok (.ishr, 1) := by decide +kernel
theorem dX5_has_3 : decode cX5_has 3 = .ok (.iconst 1, 1) := by decide +kernel
theorem dX5_has_4 : decode cX5_has 4 = .ok (.iand, 1) := by decide +kernel
theorem dX5_has_5 : decode cX5_has 5 = .ok (.iconst 1, 1) := by decide +kernel
theorem dX5_has_6 : decode cX5_has 6 = .ok (.if_icmp .ne 7, 3) := by decide +kernel
theorem dX5_has_9 : decode cX5_has 9 = .ok (.iconst 1, 1) := by decide +kernel
theorem dX5_has_10 : decode cX5_has 10 = .ok (.goto 4, 3) := by decide +kernel
theorem dX5_has_13 : decode cX5_has 13 = .ok (.iconst 0, 1) := by decide +kernel
theorem dX5_has_14 : decode cX5_has 14 = .ok (.ireturn, 1) := by decide +kernel
theorem dX5_bits_0 : decode cX5_bits 0 = .ok (.iconst 0, 1) := by decide +kernel
theorem dX5_bits_1 : decode cX5_bits 1 = .ok (.istore_n 1, 1) := by decide +kernel
theorem dX5_bits_2 : decode cX5_bits 2 = .ok (.iconst 0, 1) := by decide +kernel
theorem dX5_bits_3 : decode cX5_bits 3 = .ok (.istore_n 2, 1) := by decide +kernel
theorem dX5_bits_4 : decode cX5_bits 4 = .ok (.iload_n 2, 1) := by decide +kernel
theorem dX5_bits_5 : decode cX5_bits 5 = .ok (.bipush 8, 2) := by decide +kernel
theorem dX5_bits_7 : decode cX5_bits 7 = .ok (.if_icmp .ge 17, 3) := by decide +kernel
theorem dX5_bits_10 : decode cX5_bits 10 = .ok (.iload_n 1, 1) := by decide +kernel
theorem dX5_bits_11 : decode cX5_bits 11 = .ok (.iload_n 0, 1) := by decide +kernel
theorem dX5_bits_12 : decode cX5_bits 12 = .ok (.iload_n 2, 1) := by decide +kernel
theorem dX5_bits_13 : decode cX5_bits 13 = .ok (.ishr, 1) := by decide +kernel
theorem dX5_bits_14 : decode cX5_bits 14 = .ok (.iconst 1, 1) := by decide +kernel
theorem dX5_bits_15 : decode cX5_bits 15 = .ok (.iand, 1) := by decide +kernel
theorem dX5_bits_16 : decode cX5_bits 16 = .ok (.iadd, 1) := by decide +kernel
theorem dX5_bits_17 : decode cX5_bits 17 = .ok (.istore_n 1, 1) := by decide +kernel
theorem dX5_bits_18 : decode cX5_bits 18 = .ok (.iinc 2 1, 3) := by decide +kernel
theorem dX5_bits_21 : decode cX5_bits 21 = .ok (.goto (-17), 3) := by decide +kernel
theorem dX5_bits_24 : decode cX5_bits 24 = .ok (.iload_n 1, 1) := by decide +kernel
theorem dX5_bits_25 : decode cX5_bits 25 = .ok (.ireturn, 1) := by decide +kernel
set_option maxRecDepth 20000 in
theorem ggX5_needs_X5_of : GoodIn wsX5_needs wsX5_of := goodIn_r _ [4] (by decide +kernel) (by decide +kernel)
set_option maxRecDepth 20000 in
theorem gX5_needs_X5_of : GoodIn wsX5_needs (va_wsS RX5 45 yX5_of wsX5_of) := goodIn_app (goodIn_of _ (by decide +kernel)) ggX5_needs_X5_of
theorem dX5_needs_0 : decode cX5_needs 0 = .ok (.aload_n 0, 1) := by decide +kernel
theorem dX5_needs_1 : decode cX5_needs 1 = .ok (.iload_n 1, 1) := by decide +kernel
theorem dX5_needs_2 : decode cX5_needs 2 = .ok (.iconst 1, 1) := by decide +kernel
theorem dX5_needs_3 : decode cX5_needs 3 = .ok (.invokestatic 45, 3) := by decide +kernel
theorem dX5_needs_6 : decode cX5_needs 6 = .ok (.iaload, 1) := by decide +kernel
theorem dX5_needs_7 : decode cX5_needs 7 = .ok (.istore_n 2, 1) := by decide +kernel
theorem dX5_needs_8 : decode cX5_needs 8 = .ok (.aload_n 0, 1) := by decide +kernel
theorem dX5_needs_9 : decode cX5_needs 9 = .ok (.iload_n 1, 1) := by decide +kernel
theorem dX5_needs_10 : decode cX5_needs 10 = .ok (.iconst 0, 1) := by decide +kernel
theorem dX5_needs_11 : decode cX5_needs 11 = .ok (.invokestatic 45, 3) := by decide +kernel
theorem dX5_needs_14 : decode cX5_needs 14 = .ok (.iaload, 1) := by decide +kernel
theorem dX5_needs_15 : decode cX5_needs 15 = .ok (.tableswitch 56 1 5 #[33, 37, 43, 49, 54], 33) := by decide +kernel
theorem dX5_needs_48 : decode cX5_needs 48 = .ok (.iload_n 2, 1) := by decide +kernel
theorem dX5_needs_49 : decode cX5_needs 49 = .ok (.iconst 5, 1) := by decide +kernel
theorem dX5_needs_50 : decode cX5_needs 50 = .ok (.iadd, 1) := by decide +kernel
theorem dX5_needs_51 : decode cX5_needs 51 = .ok (.ireturn, 1) := by decide +kernel
theorem dX5_needs_52 : decode cX5_needs 52 = .ok (.iconst 2, 1) := by decide +kernel
theorem dX5_needs_53 : decode cX5_needs 53 = .ok (.iload_n 2, 1) := by decide +kernel
theorem dX5_needs_54 : decode cX5_needs 54 = .ok (.iconst 1, 1) := by decide +kernel
theorem dX5_needs_55 : decode cX5_needs 55 = .ok (.iadd, 1) := by decide +kernel
theorem dX5_needs_56 : decode cX5_needs 56 = .ok (.imul, 1) := by decide +kernel
theorem dX5_needs_57 : decode cX5_needs 57 = .ok (.ireturn, 1) := by decide +kernel
theorem dX5_needs_58 : decode cX5_needs 58 = .ok (.iload_n 2, 1) := by decide +kernel
theorem dX5_needs_59 : decode cX5_needs 59 = .ok (.iconst 1, 1) := by decide +kernel
theorem dX5_needs_60 : decode cX5_needs 60 = .ok (.iadd, 1) := by decide +kernel
theorem dX5_needs_61 : decode cX5_needs 61 = .ok (.iconst 2, 1) := by decide +kernel
theorem dX5_needs_62 : decode cX5_needs 62 = .ok (.idiv, 1) := by decide +kernel
theorem dX5_needs_63 : decode cX5_needs 63 = .ok (.ireturn, 1) := by decide +kernel
theorem dX5_needs_64 : decode cX5_needs 64 = .ok (.iload_n 2, 1) := by decide +kernel
theorem dX5_needs_65 : decode cX5_needs 65 = .ok (.bipush 15, 2) := by decide +kernel
theorem dX5_needs_67 : decode cX5_needs 67 = .ok (.iadd, 1) := by decide +kernel
theorem dX5_needs_68 : decode cX5_needs 68 = .ok (.ireturn, 1) := by decide +kernel
theorem dX5_needs_69 : decode cX5_needs 69 = .ok (.iconst 1, 1) := by decide +kernel
theorem dX5_needs_70 : decode cX5_needs 70 = .ok (.ireturn, 1) := by decide +kernel
theorem dX5_needs_71 : decode cX5_needs 71 = .ok (.iload_n 2, 1) := by decide +kernel
theorem dX5_needs_72 : decode cX5_needs 72 = .ok (.iconst 1, 1) := by decide +kernel
theorem dX5_needs_73 : decode cX5_needs 73 = .ok (.iadd, 1) := by decide +kernel
theorem dX5_needs_74 : decode cX5_needs 74 = .ok (.ireturn, 1) := by decide +kernel
set_option maxRecDepth 20000 in
theorem ggX5_wears_X5_of : GoodIn wsX5_wears wsX5_of := goodIn_r _ [4] (by decide +kernel) (by decide +kernel)
set_option maxRecDepth 20000 in
theorem gX5_wears_X5_of : GoodIn wsX5_wears (va_wsS RX5 45 yX5_of wsX5_of) := goodIn_app (goodIn_of _ (by decide +kernel)) ggX5_wears_X5_of
set_option maxRecDepth 20000 in
theorem ggX5_wears_X5_needs : GoodIn wsX5_wears wsX5_needs := goodIn_r _ [7, 1, 2, 3, 4] (by decide +kernel) (by decide +kernel)
set_option maxRecDepth 20000 in
theorem gX5_wears_X5_needs : GoodIn wsX5_wears (va_wsS RX5 49 yX5_needs wsX5_needs) := goodIn_app (goodIn_of _ (by decide +kernel)) ggX5_wears_X5_needs
theorem dX5_wears_0 : decode cX5_wears 0 = .ok (.aload_n 0, 1) := by decide +kernel
theorem dX5_wears_1 : decode cX5_wears 1 = .ok (.iload_n 1, 1) := by decide +kernel
theorem dX5_wears_2 : decode cX5_wears 2 = .ok (.iconst 0, 1) := by decide +kernel
theorem dX5_wears_3 : decode cX5_wears 3 = .ok (.invokestatic 45, 3) := by decide +kernel
theorem dX5_wears_6 : decode cX5_wears 6 = .ok (.iaload, 1) := by decide +kernel
theorem dX5_wears_7 : decode cX5_wears 7 = .ok (.tableswitch 47 2 5 #[29, 35, 37, 45], 29) := by decide +kernel
theorem dX5_wears_36 : decode cX5_wears 36 = .ok (.aload_n 0, 1) := by decide +kernel
theorem dX5_wears_37 : decode cX5_wears 37 = .ok (.iload_n 1, 1) := by decide +kernel
theorem dX5_wears_38 : decode cX5_wears 38 = .ok (.invokestatic 49, 3) := by decide +kernel
theorem dX5_wears_41 : decode cX5_wears 41 = .ok (.ireturn, 1) := by decide +kernel
theorem dX5_wears_42 : decode cX5_wears 42 = .ok (.iconst 1, 1) := by decide +kernel
theorem dX5_wears_43 : decode cX5_wears 43 = .ok (.ireturn, 1) := by decide +kernel
theorem dX5_wears_44 : decode cX5_wears 44 = .ok (.aload_n 0, 1) := by decide +kernel
theorem dX5_wears_45 : decode cX5_wears 45 = .ok (.iload_n 1, 1) := by decide +kernel
theorem dX5_wears_46 : decode cX5_wears 46 = .ok (.invokestatic 49, 3) := by decide +kernel
theorem dX5_wears_49 : decode cX5_wears 49 = .ok (.iconst 3, 1) := by decide +kernel
theorem dX5_wears_50 : decode cX5_wears 50 = .ok (.idiv, 1) := by decide +kernel
theorem dX5_wears_51 : decode cX5_wears 51 = .ok (.ireturn, 1) := by decide +kernel
theorem dX5_wears_52 : decode cX5_wears 52 = .ok (.iconst 0, 1) := by decide +kernel
theorem dX5_wears_53 : decode cX5_wears 53 = .ok (.ireturn, 1) := by decide +kernel
theorem dX5_wears_54 : decode cX5_wears 54 = .ok (.aload_n 0, 1) := by decide +kernel
theorem dX5_wears_55 : decode cX5_wears 55 = .ok (.iload_n 1, 1) := by decide +kernel
theorem dX5_wears_56 : decode cX5_wears 56 = .ok (.invokestatic 49, 3) := by decide +kernel
theorem dX5_wears_59 : decode cX5_wears 59 = .ok (.iconst 2, 1) := by decide +kernel
theorem dX5_wears_60 : decode cX5_wears 60 = .ok (.idiv, 1) := by decide +kernel
theorem dX5_wears_61 : decode cX5_wears 61 = .ok (.ireturn, 1) := by decide +kernel
theorem dX5_nextBy_0 : decode cX5_nextBy 0 = .ok (.iload_n 0, 1) := by decide +kernel
theorem dX5_nextBy_1 : decode cX5_nextBy 1 = .ok (.tableswitch 45 1 5 #[35, 37, 45, 40, 42], 35) := by decide +kernel
theorem dX5_nextBy_36 : decode cX5_nextBy 36 = .ok (.iconst 1, 1) := by decide +kernel
theorem dX5_nextBy_37 : decode cX5_nextBy 37 = .ok (.ireturn, 1) := by decide +kernel
theorem dX5_nextBy_38 : decode cX5_nextBy 38 = .ok (.bipush 30, 2) := by decide +kernel
theorem dX5_nextBy_40 : decode cX5_nextBy 40 = .ok (.ireturn, 1) := by decide +kernel
theorem dX5_nextBy_41 : decode cX5_nextBy 41 = .ok (.iconst 0, 1) := by decide +kernel
theorem dX5_nextBy_42 : decode cX5_nextBy 42 = .ok (.ireturn, 1) := by decide +kernel
theorem dX5_nextBy_43 : decode cX5_nextBy 43 = .ok (.bipush 8, 2) := by decide +kernel
theorem dX5_nextBy_45 : decode cX5_nextBy 45 = .ok (.ireturn, 1) := by decide +kernel
theorem dX5_nextBy_46 : decode cX5_nextBy 46 = .ok (.bipush 7, 2) := by decide +kernel
theorem dX5_nextBy_48 : decode cX5_nextBy 48 = .ok (.ireturn, 1) := by decide +kernel
set_option maxRecDepth 20000 in
theorem ggX5_lacksIn_X5_needs : GoodIn wsX5_lacksIn wsX5_needs := goodIn_r _ [4, 5, 6, 3, 7] (by decide +kernel) (by decide +kernel)
set_option maxRecDepth 20000 in
theorem gX5_lacksIn_X5_needs : GoodIn wsX5_lacksIn (va_wsS RX5 49 yX5_needs wsX5_needs) := goodIn_app (goodIn_of _ (by decide +kernel)) ggX5_lacksIn_X5_needs
set_option maxRecDepth 20000 in
theorem ggX5_lacksIn_X5_of : GoodIn wsX5_lacksIn wsX5_of := goodIn_r _ [7] (by decide +kernel) (by decide +kernel)
set_option maxRecDepth 20000 in
theorem gX5_lacksIn_X5_of : GoodIn wsX5_lacksIn (va_wsS RX5 45 yX5_of wsX5_of) := goodIn_app (goodIn_of _ (by decide +kernel)) ggX5_lacksIn_X5_of
theorem dX5_lacksIn_0 : decode cX5_lacksIn 0 = .ok (.aload_n 0, 1) := by decide +kernel
theorem dX5_lacksIn_1 : decode cX5_lacksIn 1 = .ok (.iload_n 1, 1) := by decide +kernel
theorem dX5_lacksIn_2 : decode cX5_lacksIn 2 = .ok (.invokestatic 49, 3) := by decide +kernel
theorem dX5_lacksIn_5 : decode cX5_lacksIn 5 = .ok (.aload_n 0, 1) := by decide +kernel
theorem dX5_lacksIn_6 : decode cX5_lacksIn 6 = .ok (.iload_n 1, 1) := by decide +kernel
theorem dX5_lacksIn_7 : decode cX5_lacksIn 7 = .ok (.iconst 2, 1) := by decide +kernel
theorem dX5_lacksIn_8 : decode cX5_lacksIn 8 = .ok (.invokestatic 45, 3) := by decide +kernel
theorem dX5_lacksIn_11 : decode cX5_lacksIn 11 = .ok (.iaload, 1) := by decide +kernel
theorem dX5_lacksIn_12 : decode cX5_lacksIn 12 = .ok (.isub, 1) := by decide +kernel
theorem dX5_lacksIn_13 : decode cX5_lacksIn 13 = .ok (.istore_n 2, 1) := by decide +kernel
theorem dX5_lacksIn_14 : decode cX5_lacksIn 14 = .ok (.aload_n 0, 1) := by decide +kernel
theorem dX5_lacksIn_15 : decode cX5_lacksIn 15 = .ok (.iload_n 1, 1) := by decide +kernel
theorem dX5_lacksIn_16 : decode cX5_lacksIn 16 = .ok (.iconst 3, 1) := by decide +kernel
theorem dX5_lacksIn_17 : decode cX5_lacksIn 17 = .ok (.invokestatic 45, 3) := by decide +kernel
theorem dX5_lacksIn_20 : decode cX5_lacksIn 20 = .ok (.iaload, 1) := by decide +kernel
theorem dX5_lacksIn_21 : decode cX5_lacksIn 21 = .ok (.ifCond .eq 7, 3) := by decide +kernel
theorem dX5_lacksIn_24 : decode cX5_lacksIn 24 = .ok (.iload_n 2, 1) := by decide +kernel
theorem dX5_lacksIn_25 : decode cX5_lacksIn 25 = .ok (.ifCond .ge 7, 3) := by decide +kernel
theorem dX5_lacksIn_28 : decode cX5_lacksIn 28 = .ok (.iconst 0, 1) := by decide +kernel
theorem dX5_lacksIn_29 : decode cX5_lacksIn 29 = .ok (.goto 4, 3) := by decide +kernel
theorem dX5_lacksIn_32 : decode cX5_lacksIn 32 = .ok (.iload_n 2, 1) := by decide +kernel
theorem dX5_lacksIn_33 : decode cX5_lacksIn 33 = .ok (.ireturn, 1) := by decide +kernel
set_option maxRecDepth 20000 in
theorem ggX5_isGone_X5_least : GoodIn wsX5_isGone wsX5_least := goodIn_r _ [4] (by decide +kernel) (by decide +kernel)
set_option maxRecDepth 20000 in
theorem gX5_isGone_X5_least : GoodIn wsX5_isGone (va_wsS RX5 53 yX5_least wsX5_least) := goodIn_app (goodIn_of _ (by decide +kernel)) ggX5_isGone_X5_least
theorem dX5_isGone_0 : decode cX5_isGone 0 = .ok (.aload_n 0, 1) := by decide +kernel
theorem dX5_isGone_1 : decode cX5_isGone 1 = .ok (.iconst 3, 1) := by decide +kernel
theorem dX5_isGone_2 : decode cX5_isGone 2 = .ok (.sipush 9999, 3) := by decide +kernel
theorem dX5_isGone_5 : decode cX5_isGone 5 = .ok (.aload_n 0, 1) := by decide +kernel
theorem dX5_isGone_6 : decode cX5_isGone 6 = .ok (.iconst 3, 1) := by decide +kernel
theorem dX5_isGone_7 : decode cX5_isGone 7 = .ok (.iaload, 1) := by decide +kernel
theorem dX5_isGone_8 : decode cX5_isGone 8 = .ok (.iload_n 1, 1) := by decide +kernel
theorem dX5_isGone_9 : decode cX5_isGone 9 = .ok (.iadd, 1) := by decide +kernel
theorem dX5_isGone_10 : decode cX5_isGone 10 = .ok (.invokestatic 53, 3) := by decide +kernel
theorem dX5_isGone_13 : decode cX5_isGone 13 = .ok (.iastore, 1) := by decide +kernel
theorem dX5_isGone_14 : decode cX5_isGone 14 = .ok (.return_, 1) := by decide +kernel
set_option maxRecDepth 20000 in
theorem ggX5_meets_X5_of : GoodIn wsX5_meets wsX5_of := goodIn_r _ [4] (by decide +kernel) (by decide +kernel)
set_option maxRecDepth 20000 in
theorem gX5_meets_X5_of : GoodIn wsX5_meets (va_wsS RX5 45 yX5_of wsX5_of) := goodIn_app (goodIn_of _ (by decide +kernel)) ggX5_meets_X5_of
set_option maxRecDepth 20000 in
theorem ggX5_meets_X5_needs : GoodIn wsX5_meets wsX5_needs := goodIn_r _ [7, 1, 2, 3, 4] (by decide +kernel) (by decide +kernel)
set_option maxRecDepth 20000 in
theorem gX5_meets_X5_needs : GoodIn wsX5_meets (va_wsS RX5 49 yX5_needs wsX5_needs) := goodIn_app (goodIn_of _ (by decide +kernel)) ggX5_meets_X5_needs
set_option maxRecDepth 20000 in
theorem ggX5_meets_X5_least : GoodIn wsX5_meets wsX5_least := goodIn_r _ [10] (by decide +kernel) (by decide +kernel)
set_option maxRecDepth 20000 in
theorem gX5_meets_X5_least : GoodIn wsX5_meets (va_wsS RX5 53 yX5_least wsX5_least) := goodIn_app (goodIn_of _ (by decide +kernel)) ggX5_meets_X5_least
set_option maxRecDepth 20000 in
theorem ggX5_meets_X5_wears : GoodIn wsX5_meets wsX5_wears := goodIn_r _ [13, 1, 2, 3, 4, 5, 6, 7] (by decide +kernel) (by decide +kernel)
set_option maxRecDepth 20000 in
theorem gX5_meets_X5_wears : GoodIn wsX5_meets (va_wsS RX5 56 yX5_wears wsX5_wears) := goodIn_app (goodIn_of _ (by decide +kernel)) ggX5_meets_X5_wears
set_option maxRecDepth 20000 in
theorem ggX5_meets_X5_isGone : GoodIn wsX5_meets wsX5_isGone := goodIn_r _ [16, 8, 9, 3, 10] (by decide +kernel) (by decide +kernel)
set_option maxRecDepth 20000 in
theorem gX5_meets_X5_isGone : GoodIn wsX5_meets (va_wsS RX5 59 yX5_isGone wsX5_isGone) := goodIn_app (goodIn_of _ (by decide +kernel)) ggX5_meets_X5_isGone
set_option maxRecDepth 20000 in
theorem ggX5_meets_X5_nextBy : GoodIn wsX5_meets wsX5_nextBy := goodIn_r _ [19] (by decide +kernel) (by decide +kernel)
set_option maxRecDepth 20000 in
theorem gX5_meets_X5_nextBy : GoodIn wsX5_meets (va_wsS RX5 63 yX5_nextBy wsX5_nextBy) := goodIn_app (goodIn_of _ (by decide +kernel)) ggX5_meets_X5_nextBy
theorem dX5_meets_0 : decode cX5_meets 0 = .ok (.aload_n 0, 1) := by decide +kernel
theorem dX5_meets_1 : decode cX5_meets 1 = .ok (.iload_n 1, 1) := by decide +kernel
theorem dX5_meets_2 : decode cX5_meets 2 = .ok (.iconst 2, 1) := by decide +kernel
theorem dX5_meets_3 : decode cX5_meets 3 = .ok (.invokestatic 45, 3) := by decide +kernel
theorem dX5_meets_6 : decode cX5_meets 6 = .ok (.iaload, 1) := by decide +kernel
theorem dX5_meets_7 : decode cX5_meets 7 = .ok (.aload_n 0, 1) := by decide +kernel
theorem dX5_meets_8 : decode cX5_meets 8 = .ok (.iload_n 1, 1) := by decide +kernel
theorem dX5_meets_9 : decode cX5_meets 9 = .ok (.invokestatic 49, 3) := by decide +kernel
theorem dX5_meets_12 : decode cX5_meets 12 = .ok (.if_icmp .lt 7, 3) := by decide +kernel
theorem dX5_meets_15 : decode cX5_meets 15 = .ok (.iconst 1, 1) := by decide +kernel
theorem dX5_meets_16 : decode cX5_meets 16 = .ok (.goto 4, 3) := by decide +kernel
theorem dX5_meets_19 : decode cX5_meets 19 = .ok (.iconst 0, 1) := by decide +kernel
theorem dX5_meets_20 : decode cX5_meets 20 = .ok (.istore_n 2, 1) := by decide +kernel
theorem dX5_meets_21 : decode cX5_meets 21 = .ok (.iload_n 1, 1) := by decide +kernel
theorem dX5_meets_22 : decode cX5_meets 22 = .ok (.iload_n 2, 1) := by decide +kernel
theorem dX5_meets_23 : decode cX5_meets 23 = .ok (.ifCond .eq 7, 3) := by decide +kernel
theorem dX5_meets_26 : decode cX5_meets 26 = .ok (.iconst 4, 1) := by decide +kernel
theorem dX5_meets_27 : decode cX5_meets 27 = .ok (.goto 4, 3) := by decide +kernel
theorem dX5_meets_30 : decode cX5_meets 30 = .ok (.iconst 5, 1) := by decide +kernel
theorem dX5_meets_31 : decode cX5_meets 31 = .ok (.invokestatic 45, 3) := by decide +kernel
theorem dX5_meets_34 : decode cX5_meets 34 = .ok (.istore_n 3, 1) := by decide +kernel
theorem dX5_meets_35 : decode cX5_meets 35 = .ok (.aload_n 0, 1) := by decide +kernel
theorem dX5_meets_36 : decode cX5_meets 36 = .ok (.iload_n 3, 1) := by decide +kernel
theorem dX5_meets_37 : decode cX5_meets 37 = .ok (.sipush 999, 3) := by decide +kernel
theorem dX5_meets_40 : decode cX5_meets 40 = .ok (.aload_n 0, 1) := by decide +kernel
theorem dX5_meets_41 : decode cX5_meets 41 = .ok (.iload_n 3, 1) := by decide +kernel
theorem dX5_meets_42 : decode cX5_meets 42 = .ok (.iaload, 1) := by decide +kernel
theorem dX5_meets_43 : decode cX5_meets 43 = .ok (.iconst 1, 1) := by decide +kernel
theorem dX5_meets_44 : decode cX5_meets 44 = .ok (.iadd, 1) := by decide +kernel
theorem dX5_meets_45 : decode cX5_meets 45 = .ok (.invokestatic 53, 3) := by decide +kernel
theorem dX5_meets_48 : decode cX5_meets 48 = .ok (.iastore, 1) := by decide +kernel
theorem dX5_meets_49 : decode cX5_meets 49 = .ok (.iload_n 2, 1) := by decide +kernel
theorem dX5_meets_50 : decode cX5_meets 50 = .ok (.ifCond .eq 38, 3) := by decide +kernel
theorem dX5_meets_53 : decode cX5_meets 53 = .ok (.aload_n 0, 1) := by decide +kernel
theorem dX5_meets_54 : decode cX5_meets 54 = .ok (.iload_n 1, 1) := by decide +kernel
theorem dX5_meets_55 : decode cX5_meets 55 = .ok (.invokestatic 56, 3) := by decide +kernel
theorem dX5_meets_58 : decode cX5_meets 58 = .ok (.aload_n 0, 1) := by decide +kernel
theorem dX5_meets_59 : decode cX5_meets 59 = .ok (.iload_n 1, 1) := by decide +kernel
theorem dX5_meets_60 : decode cX5_meets 60 = .ok (.iconst 2, 1) := by decide +kernel
theorem dX5_meets_61 : decode cX5_meets 61 = .ok (.invokestatic 45, 3) := by decide +kernel
theorem dX5_meets_64 : decode cX5_meets 64 = .ok (.iaload, 1) := by decide +kernel
theorem dX5_meets_65 : decode cX5_meets 65 = .ok (.invokestatic 53, 3) := by decide +kernel
theorem dX5_meets_68 : decode cX5_meets 68 = .ok (.istore 4, 2) := by decide +kernel
theorem dX5_meets_70 : decode cX5_meets 70 = .ok (.aload_n 0, 1) := by decide +kernel
theorem dX5_meets_71 : decode cX5_meets 71 = .ok (.iload_n 1, 1) := by decide +kernel
theorem dX5_meets_72 : decode cX5_meets 72 = .ok (.iconst 2, 1) := by decide +kernel
theorem dX5_meets_73 : decode cX5_meets 73 = .ok (.invokestatic 45, 3) := by decide +kernel
theorem dX5_meets_76 : decode cX5_meets 76 = .ok (.dup2, 1) := by decide +kernel
theorem dX5_meets_77 : decode cX5_meets 77 = .ok (.iaload, 1) := by decide +kernel
theorem dX5_meets_78 : decode cX5_meets 78 = .ok (.iload 4, 2) := by decide +kernel
theorem dX5_meets_80 : decode cX5_meets 80 = .ok (.isub, 1) := by decide +kernel
theorem dX5_meets_81 : decode cX5_meets 81 = .ok (.iastore, 1) := by decide +kernel
theorem dX5_meets_82 : decode cX5_meets 82 = .ok (.aload_n 0, 1) := by decide +kernel
theorem dX5_meets_83 : decode cX5_meets 83 = .ok (.iload 4, 2) := by decide +kernel
theorem dX5_meets_85 : decode cX5_meets 85 = .ok (.invokestatic 59, 3) := by decide +kernel
theorem dX5_meets_88 : decode cX5_meets 88 = .ok (.aload_n 0, 1) := by decide +kernel
theorem dX5_meets_89 : decode cX5_meets 89 = .ok (.iload_n 1, 1) := by decide +kernel
theorem dX5_meets_90 : decode cX5_meets 90 = .ok (.iconst 3, 1) := by decide +kernel
theorem dX5_meets_91 : decode cX5_meets 91 = .ok (.invokestatic 45, 3) := by decide +kernel
theorem dX5_meets_94 : decode cX5_meets 94 = .ok (.aload_n 0, 1) := by decide +kernel
theorem dX5_meets_95 : decode cX5_meets 95 = .ok (.iload_n 1, 1) := by decide +kernel
theorem dX5_meets_96 : decode cX5_meets 96 = .ok (.iconst 0, 1) := by decide +kernel
theorem dX5_meets_97 : decode cX5_meets 97 = .ok (.invokestatic 45, 3) := by decide +kernel
theorem dX5_meets_100 : decode cX5_meets 100 = .ok (.iaload, 1) := by decide +kernel
theorem dX5_meets_101 : decode cX5_meets 101 = .ok (.invokestatic 63, 3) := by decide +kernel
theorem dX5_meets_104 : decode cX5_meets 104 = .ok (.iastore, 1) := by decide +kernel
theorem dX5_meets_105 : decode cX5_meets 105 = .ok (.return_, 1) := by decide +kernel
set_option maxRecDepth 20000 in
theorem ggX5_day_X5_of : GoodIn wsX5_day wsX5_of := goodIn_r _ [4] (by decide +kernel) (by decide +kernel)
set_option maxRecDepth 20000 in
theorem gX5_day_X5_of : GoodIn wsX5_day (va_wsS RX5 45 yX5_of wsX5_of) := goodIn_app (goodIn_of _ (by decide +kernel)) ggX5_day_X5_of
set_option maxRecDepth 20000 in
theorem ggX5_day_X5_meets : GoodIn wsX5_day wsX5_meets := goodIn_r _ [7, 1, 2, 3, 4, 8, 9, 10, 11, 12, 13, 14, 15, 16, 17, 18, 19, 20, 21, 22] (by decide +kernel) (by decide +kernel)
set_option maxRecDepth 20000 in
theorem gX5_day_X5_meets : GoodIn wsX5_day (va_wsS RX5 66 yX5_meets wsX5_meets) := goodIn_app (goodIn_of _ (by decide +kernel)) ggX5_day_X5_meets
theorem dX5_day_0 : decode cX5_day 0 = .ok (.aload_n 0, 1) := by decide +kernel
theorem dX5_day_1 : decode cX5_day 1 = .ok (.iconst 1, 1) := by decide +kernel
theorem dX5_day_2 : decode cX5_day 2 = .ok (.dup2, 1) := by decide +kernel
theorem dX5_day_3 : decode cX5_day 3 = .ok (.iaload, 1) := by decide +kernel
theorem dX5_day_4 : decode cX5_day 4 = .ok (.iconst 1, 1) := by decide +kernel
theorem dX5_day_5 : decode cX5_day 5 = .ok (.iadd, 1) := by decide +kernel
theorem dX5_day_6 : decode cX5_day 6 = .ok (.iastore, 1) := by decide +kernel
theorem dX5_day_7 : decode cX5_day 7 = .ok (.iconst 0, 1) := by decide +kernel
theorem dX5_day_8 : decode cX5_day 8 = .ok (.istore_n 1, 1) := by decide +kernel
theorem dX5_day_9 : decode cX5_day 9 = .ok (.iload_n 1, 1) := by decide +kernel
theorem dX5_day_10 : decode cX5_day 10 = .ok (.aload_n 0, 1) := by decide +kernel
theorem dX5_day_11 : decode cX5_day 11 = .ok (.iconst 0, 1) := by decide +kernel
theorem dX5_day_12 : decode cX5_day 12 = .ok (.iaload, 1) := by decide +kernel
theorem dX5_day_13 : decode cX5_day 13 = .ok (.if_icmp .ge 48, 3) := by decide +kernel
theorem dX5_day_16 : decode cX5_day 16 = .ok (.aload_n 0, 1) := by decide +kernel
theorem dX5_day_17 : decode cX5_day 17 = .ok (.iload_n 1, 1) := by decide +kernel
theorem dX5_day_18 : decode cX5_day 18 = .ok (.iconst 3, 1) := by decide +kernel
theorem dX5_day_19 : decode cX5_day 19 = .ok (.invokestatic 45, 3) := by decide +kernel
theorem dX5_day_22 : decode cX5_day 22 = .ok (.iaload, 1) := by decide +kernel
theorem dX5_day_23 : decode cX5_day 23 = .ok (.ifCond .ne 6, 3) := by decide +kernel
theorem dX5_day_26 : decode cX5_day 26 = .ok (.goto 29, 3) := by decide +kernel
theorem dX5_day_29 : decode cX5_day 29 = .ok (.aload_n 0, 1) := by decide +kernel
theorem dX5_day_30 : decode cX5_day 30 = .ok (.iload_n 1, 1) := by decide +kernel
theorem dX5_day_31 : decode cX5_day 31 = .ok (.iconst 3, 1) := by decide +kernel
theorem dX5_day_32 : decode cX5_day 32 = .ok (.invokestatic 45, 3) := by decide +kernel
theorem dX5_day_35 : decode cX5_day 35 = .ok (.dup2, 1) := by decide +kernel
theorem dX5_day_36 : decode cX5_day 36 = .ok (.iaload, 1) := by decide +kernel
theorem dX5_day_37 : decode cX5_day 37 = .ok (.iconst 1, 1) := by decide +kernel
theorem dX5_day_38 : decode cX5_day 38 = .ok (.isub, 1) := by decide +kernel
theorem dX5_day_39 : decode cX5_day 39 = .ok (.iastore, 1) := by decide +kernel
theorem dX5_day_40 : decode cX5_day 40 = .ok (.aload_n 0, 1) := by decide +kernel
theorem dX5_day_41 : decode cX5_day 41 = .ok (.iload_n 1, 1) := by decide +kernel
theorem dX5_day_42 : decode cX5_day 42 = .ok (.iconst 3, 1) := by decide +kernel
theorem dX5_day_43 : decode cX5_day 43 = .ok (.invokestatic 45, 3) := by decide +kernel
theorem dX5_day_46 : decode cX5_day 46 = .ok (.iaload, 1) := by decide +kernel
theorem dX5_day_47 : decode cX5_day 47 = .ok (.ifCond .ne 8, 3) := by decide +kernel
theorem dX5_day_50 : decode cX5_day 50 = .ok (.aload_n 0, 1) := by decide +kernel
theorem dX5_day_51 : decode cX5_day 51 = .ok (.iload_n 1, 1) := by decide +kernel
theorem dX5_day_52 : decode cX5_day 52 = .ok (.invokestatic 66, 3) := by decide +kernel
theorem dX5_day_55 : decode cX5_day 55 = .ok (.iinc 1 1, 3) := by decide +kernel
theorem dX5_day_58 : decode cX5_day 58 = .ok (.goto (-49), 3) := by decide +kernel
theorem dX5_day_61 : decode cX5_day 61 = .ok (.return_, 1) := by decide +kernel
set_option maxRecDepth 20000 in
theorem ggX5_daysOn_X5_day : GoodIn wsX5_daysOn wsX5_day := goodIn_r _ [4, 5, 6, 3, 7, 8, 9, 10, 11, 12, 13, 14, 15, 16, 17, 18, 19, 20, 21, 22, 23, 24, 25] (by decide +kernel) (by decide +kernel)
set_option maxRecDepth 20000 in
theorem gX5_daysOn_X5_day : GoodIn wsX5_daysOn (va_wsS RX5 69 yX5_day wsX5_day) := goodIn_app (goodIn_of _ (by decide +kernel)) ggX5_daysOn_X5_day
theorem dX5_daysOn_0 : decode cX5_daysOn 0 = .ok (.iconst 0, 1) := by decide +kernel
theorem dX5_daysOn_1 : decode cX5_daysOn 1 = .ok (.istore_n 2, 1) := by decide +kernel
theorem dX5_daysOn_2 : decode cX5_daysOn 2 = .ok (.iload_n 2, 1) := by decide +kernel
theorem dX5_daysOn_3 : decode cX5_daysOn 3 = .ok (.iload_n 1, 1) := by decide +kernel
theorem dX5_daysOn_4 : decode cX5_daysOn 4 = .ok (.if_icmp .ge 13, 3) := by decide +kernel
theorem dX5_daysOn_7 : decode cX5_daysOn 7 = .ok (.aload_n 0, 1) := by decide +kernel
theorem dX5_daysOn_8 : decode cX5_daysOn 8 = .ok (.invokestatic 69, 3) := by decide +kernel
theorem dX5_daysOn_11 : decode cX5_daysOn 11 = .ok (.iinc 2 1, 3) := by decide +kernel
theorem dX5_daysOn_14 : decode cX5_daysOn 14 = .ok (.goto (-12), 3) := by decide +kernel
theorem dX5_daysOn_17 : decode cX5_daysOn 17 = .ok (.return_, 1) := by decide +kernel
set_option maxRecDepth 20000 in
theorem ggX5_allOf_X5_of : GoodIn wsX5_allOf wsX5_of := goodIn_r _ [4] (by decide +kernel) (by decide +kernel)
set_option maxRecDepth 20000 in
theorem gX5_allOf_X5_of : GoodIn wsX5_allOf (va_wsS RX5 45 yX5_of wsX5_of) := goodIn_app (goodIn_of _ (by decide +kernel)) ggX5_allOf_X5_of
theorem dX5_allOf_0 : decode cX5_allOf 0 = .ok (.iconst 0, 1) := by decide +kernel
theorem dX5_allOf_1 : decode cX5_allOf 1 = .ok (.istore_n 2, 1) := by decide +kernel
theorem dX5_allOf_2 : decode cX5_allOf 2 = .ok (.iconst 0, 1) := by decide +kernel
theorem dX5_allOf_3 : decode cX5_allOf 3 = .ok (.istore_n 3, 1) := by decide +kernel
theorem dX5_allOf_4 : decode cX5_allOf 4 = .ok (.iload_n 3, 1) := by decide +kernel
theorem dX5_allOf_5 : decode cX5_allOf 5 = .ok (.aload_n 0, 1) := by decide +kernel
theorem dX5_allOf_6 : decode cX5_allOf 6 = .ok (.iconst 0, 1) := by decide +kernel
theorem dX5_allOf_7 : decode cX5_allOf 7 = .ok (.iaload, 1) := by decide +kernel
theorem dX5_allOf_8 : decode cX5_allOf 8 = .ok (.if_icmp .ge 19, 3) := by decide +kernel
theorem dX5_allOf_11 : decode cX5_allOf 11 = .ok (.iload_n 2, 1) := by decide +kernel
theorem dX5_allOf_12 : decode cX5_allOf 12 = .ok (.aload_n 0, 1) := by decide +kernel
theorem dX5_allOf_13 : decode cX5_allOf 13 = .ok (.iload_n 3, 1) := by decide +kernel
theorem dX5_allOf_14 : decode cX5_allOf 14 = .ok (.iload_n 1, 1) := by decide +kernel
theorem dX5_allOf_15 : decode cX5_allOf 15 = .ok (.invokestatic 45, 3) := by decide +kernel
theorem dX5_allOf_18 : decode cX5_allOf 18 = .ok (.iaload, 1) := by decide +kernel
theorem dX5_allOf_19 : decode cX5_allOf 19 = .ok (.iadd, 1) := by decide +kernel
theorem dX5_allOf_20 : decode cX5_allOf 20 = .ok (.istore_n 2, 1) := by decide +kernel
theorem dX5_allOf_21 : decode cX5_allOf 21 = .ok (.iinc 3 1, 3) := by decide +kernel
theorem dX5_allOf_24 : decode cX5_allOf 24 = .ok (.goto (-20), 3) := by decide +kernel
theorem dX5_allOf_27 : decode cX5_allOf 27 = .ok (.iload_n 2, 1) := by decide +kernel
theorem dX5_allOf_28 : decode cX5_allOf 28 = .ok (.ireturn, 1) := by decide +kernel
set_option maxRecDepth 20000 in
theorem ggX5_issuesIn_X5_of : GoodIn wsX5_issuesIn wsX5_of := goodIn_r _ [4] (by decide +kernel) (by decide +kernel)
set_option maxRecDepth 20000 in
theorem gX5_issuesIn_X5_of : GoodIn wsX5_issuesIn (va_wsS RX5 45 yX5_of wsX5_of) := goodIn_app (goodIn_of _ (by decide +kernel)) ggX5_issuesIn_X5_of
theorem dX5_issuesIn_0 : decode cX5_issuesIn 0 = .ok (.aload_n 0, 1) := by decide +kernel
theorem dX5_issuesIn_1 : decode cX5_issuesIn 1 = .ok (.iconst 2, 1) := by decide +kernel
theorem dX5_issuesIn_2 : decode cX5_issuesIn 2 = .ok (.dup2, 1) := by decide +kernel
theorem dX5_issuesIn_3 : decode cX5_issuesIn 3 = .ok (.iaload, 1) := by decide +kernel
theorem dX5_issuesIn_4 : decode cX5_issuesIn 4 = .ok (.iload_n 2, 1) := by decide +kernel
theorem dX5_issuesIn_5 : decode cX5_issuesIn 5 = .ok (.isub, 1) := by decide +kernel
theorem dX5_issuesIn_6 : decode cX5_issuesIn 6 = .ok (.iastore, 1) := by decide +kernel
theorem dX5_issuesIn_7 : decode cX5_issuesIn 7 = .ok (.aload_n 0, 1) := by decide +kernel
theorem dX5_issuesIn_8 : decode cX5_issuesIn 8 = .ok (.iload_n 1, 1) := by decide +kernel
theorem dX5_issuesIn_9 : decode cX5_issuesIn 9 = .ok (.iconst 2, 1) := by decide +kernel
theorem dX5_issuesIn_10 : decode cX5_issuesIn 10 = .ok (.invokestatic 45, 3) := by decide +kernel
theorem dX5_issuesIn_13 : decode cX5_issuesIn 13 = .ok (.dup2, 1) := by decide +kernel
theorem dX5_issuesIn_14 : decode cX5_issuesIn 14 = .ok (.iaload, 1) := by decide +kernel
theorem dX5_issuesIn_15 : decode cX5_issuesIn 15 = .ok (.iload_n 2, 1) := by decide +kernel
theorem dX5_issuesIn_16 : decode cX5_issuesIn 16 = .ok (.iadd, 1) := by decide +kernel
theorem dX5_issuesIn_17 : decode cX5_issuesIn 17 = .ok (.iastore, 1) := by decide +kernel
theorem dX5_issuesIn_18 : decode cX5_issuesIn 18 = .ok (.return_, 1) := by decide +kernel
set_option maxRecDepth 20000 in
theorem ggX5_handsIn_X5_of : GoodIn wsX5_handsIn wsX5_of := goodIn_r _ [4] (by decide +kernel) (by decide +kernel)
set_option maxRecDepth 20000 in
theorem gX5_handsIn_X5_of : GoodIn wsX5_handsIn (va_wsS RX5 45 yX5_of wsX5_of) := goodIn_app (goodIn_of _ (by decide +kernel)) ggX5_handsIn_X5_of
set_option maxRecDepth 20000 in
theorem ggX5_handsIn_X5_least : GoodIn wsX5_handsIn wsX5_least := goodIn_r _ [7] (by decide +kernel) (by decide +kernel)
set_option maxRecDepth 20000 in
theorem gX5_handsIn_X5_least : GoodIn wsX5_handsIn (va_wsS RX5 53 yX5_least wsX5_least) := goodIn_app (goodIn_of _ (by decide +kernel)) ggX5_handsIn_X5_least
set_option maxRecDepth 20000 in
theorem ggX5_handsIn_X5_isGone : GoodIn wsX5_handsIn wsX5_isGone := goodIn_r _ [10, 5, 6, 3, 7] (by decide +kernel) (by decide +kernel)
set_option maxRecDepth 20000 in
theorem gX5_handsIn_X5_isGone : GoodIn wsX5_handsIn (va_wsS RX5 59 yX5_isGone wsX5_isGone) := goodIn_app (goodIn_of _ (by decide +kernel)) ggX5_handsIn_X5_isGone
theorem dX5_handsIn_0 : decode cX5_handsIn 0 = .ok (.aload_n 0, 1) := by decide +kernel
theorem dX5_handsIn_1 : decode cX5_handsIn 1 = .ok (.iconst 2, 1) := by decide +kernel
theorem dX5_handsIn_2 : decode cX5_handsIn 2 = .ok (.iaload, 1) := by decide +kernel
theorem dX5_handsIn_3 : decode cX5_handsIn 3 = .ok (.aload_n 0, 1) := by decide +kernel
theorem dX5_handsIn_4 : decode cX5_handsIn 4 = .ok (.iload_n 1, 1) := by decide +kernel
theorem dX5_handsIn_5 : decode cX5_handsIn 5 = .ok (.iconst 2, 1) := by decide +kernel
theorem dX5_handsIn_6 : decode cX5_handsIn 6 = .ok (.invokestatic 45, 3) := by decide +kernel
theorem dX5_handsIn_9 : decode cX5_handsIn 9 = .ok (.iaload, 1) := by decide +kernel
theorem dX5_handsIn_10 : decode cX5_handsIn 10 = .ok (.iadd, 1) := by decide +kernel
theorem dX5_handsIn_11 : decode cX5_handsIn 11 = .ok (.istore_n 2, 1) := by decide +kernel
theorem dX5_handsIn_12 : decode cX5_handsIn 12 = .ok (.aload_n 0, 1) := by decide +kernel
theorem dX5_handsIn_13 : decode cX5_handsIn 13 = .ok (.iload_n 1, 1) := by decide +kernel
theorem dX5_handsIn_14 : decode cX5_handsIn 14 = .ok (.iconst 2, 1) := by decide +kernel
theorem dX5_handsIn_15 : decode cX5_handsIn 15 = .ok (.invokestatic 45, 3) := by decide +kernel
theorem dX5_handsIn_18 : decode cX5_handsIn 18 = .ok (.iconst 0, 1) := by decide +kernel
theorem dX5_handsIn_19 : decode cX5_handsIn 19 = .ok (.iastore, 1) := by decide +kernel
theorem dX5_handsIn_20 : decode cX5_handsIn 20 = .ok (.aload_n 0, 1) := by decide +kernel
theorem dX5_handsIn_21 : decode cX5_handsIn 21 = .ok (.iconst 2, 1) := by decide +kernel
theorem dX5_handsIn_22 : decode cX5_handsIn 22 = .ok (.sipush 999, 3) := by decide +kernel
theorem dX5_handsIn_25 : decode cX5_handsIn 25 = .ok (.iload_n 2, 1) := by decide +kernel
theorem dX5_handsIn_26 : decode cX5_handsIn 26 = .ok (.invokestatic 53, 3) := by decide +kernel
theorem dX5_handsIn_29 : decode cX5_handsIn 29 = .ok (.iastore, 1) := by decide +kernel
theorem dX5_handsIn_30 : decode cX5_handsIn 30 = .ok (.iload_n 2, 1) := by decide +kernel
theorem dX5_handsIn_31 : decode cX5_handsIn 31 = .ok (.sipush 999, 3) := by decide +kernel
theorem dX5_handsIn_34 : decode cX5_handsIn 34 = .ok (.if_icmp .le 12, 3) := by decide +kernel
theorem dX5_handsIn_37 : decode cX5_handsIn 37 = .ok (.aload_n 0, 1) := by decide +kernel
theorem dX5_handsIn_38 : decode cX5_handsIn 38 = .ok (.iload_n 2, 1) := by decide +kernel
theorem dX5_handsIn_39 : decode cX5_handsIn 39 = .ok (.sipush 999, 3) := by decide +kernel
theorem dX5_handsIn_42 : decode cX5_handsIn 42 = .ok (.isub, 1) := by decide +kernel
theorem dX5_handsIn_43 : decode cX5_handsIn 43 = .ok (.invokestatic 59, 3) := by decide +kernel
theorem dX5_handsIn_46 : decode cX5_handsIn 46 = .ok (.return_, 1) := by decide +kernel
set_option maxRecDepth 20000 in
theorem ggX5_throughBehind_X5_daysOn : GoodIn wsX5_throughBehind wsX5_daysOn := goodIn_r _ [6, 7, 8, 5, 9, 10, 11, 12, 13, 14, 15, 16, 17, 18, 19, 20, 21, 22, 23, 24, 25, 26, 27, 28, 29, 30] (by decide +kernel) (by decide +kernel)
set_option maxRecDepth 20000 in
theorem gX5_throughBehind_X5_daysOn : GoodIn wsX5_throughBehind (va_wsS RX5 73 yX5_daysOn wsX5_daysOn) := goodIn_app (goodIn_of _ (by decide +kernel)) ggX5_throughBehind_X5_daysOn
set_option maxRecDepth 20000 in
theorem ggX5_throughBehind_X5_allOf : GoodIn wsX5_throughBehind wsX5_allOf := goodIn_r _ [33, 10, 11, 5, 12] (by decide +kernel) (by decide +kernel)
set_option maxRecDepth 20000 in
theorem gX5_throughBehind_X5_allOf : GoodIn wsX5_throughBehind (va_wsS RX5 76 yX5_allOf wsX5_allOf) := goodIn_app (goodIn_of _ (by decide +kernel)) ggX5_throughBehind_X5_allOf
theorem dX5_throughBehind_0 : decode cX5_throughBehind 0 = .ok (.aload_n 0, 1) := by decide +kernel
theorem dX5_throughBehind_1 : decode cX5_throughBehind 1 = .ok (.getfield 13, 3) := by decide +kernel
theorem dX5_throughBehind_4 : decode cX5_throughBehind 4 = .ok (.iload_n 1, 1) := by decide +kernel
theorem dX5_throughBehind_5 : decode cX5_throughBehind 5 = .ok (.invokestatic 73, 3) := by decide +kernel
theorem dX5_throughBehind_8 : decode cX5_throughBehind 8 = .ok (.aload_n 0, 1) := by decide +kernel
theorem dX5_throughBehind_9 : decode cX5_throughBehind 9 = .ok (.getfield 13, 3) := by decide +kernel
theorem dX5_throughBehind_12 : decode cX5_throughBehind 12 = .ok (.iconst 4, 1) := by decide +kernel
theorem dX5_throughBehind_13 : decode cX5_throughBehind 13 = .ok (.invokestatic 76, 3) := by decide +kernel
theorem dX5_throughBehind_16 : decode cX5_throughBehind 16 = .ok (.aload_n 0, 1) := by decide +kernel
theorem dX5_throughBehind_17 : decode cX5_throughBehind 17 = .ok (.getfield 9, 3) := by decide +kernel
theorem dX5_throughBehind_20 : decode cX5_throughBehind 20 = .ok (.iconst 4, 1) := by decide +kernel
theorem dX5_throughBehind_21 : decode cX5_throughBehind 21 = .ok (.invokestatic 76, 3) := by decide +kernel
theorem dX5_throughBehind_24 : decode cX5_throughBehind 24 = .ok (.isub, 1) := by decide +kernel
theorem dX5_throughBehind_25 : decode cX5_throughBehind 25 = .ok (.ireturn, 1) := by decide +kernel
set_option maxRecDepth 20000 in
theorem ggX5_letter_X5_no : GoodIn wsX5_letter wsX5_no := goodIn_r _ [7, 8, 9, 10, 11, 12, 13, 14, 15, 16, 17, 18, 19, 20, 21] (by decide +kernel) (by decide +kernel)
set_option maxRecDepth 20000 in
theorem gX5_letter_X5_no : GoodIn wsX5_letter (wsV RX5 35 RX5 yX5_no wsX5_no) := goodIn_app (goodIn_of _ (by decide +kernel)) ggX5_letter_X5_no
theorem dX5_letter_0 : decode cX5_letter 0 = .ok (.iload_n 1, 1) := by decide +kernel
theorem dX5_letter_1 : decode cX5_letter 1 = .ok (.ifCond .ge 10, 3) := by decide +kernel
theorem dX5_letter_4 : decode cX5_letter 4 = .ok (.aload_n 0, 1) := by decide +kernel
theorem dX5_letter_5 : decode cX5_letter 5 = .ok (.bipush (-4), 2) := by decide +kernel
theorem dX5_letter_7 : decode cX5_letter 7 = .ok (.invokevirtual 35, 3) := by decide +kernel
theorem dX5_letter_10 : decode cX5_letter 10 = .ok (.ireturn, 1) := by decide +kernel
theorem dX5_letter_11 : decode cX5_letter 11 = .ok (.iload_n 1, 1) := by decide +kernel
theorem dX5_letter_12 : decode cX5_letter 12 = .ok (.sipush 255, 3) := by decide +kernel
theorem dX5_letter_15 : decode cX5_letter 15 = .ok (.if_icmp .gt 12, 3) := by decide +kernel
theorem dX5_letter_18 : decode cX5_letter 18 = .ok (.aload_n 0, 1) := by decide +kernel
theorem dX5_letter_19 : decode cX5_letter 19 = .ok (.getfield 79, 3) := by decide +kernel
theorem dX5_letter_22 : decode cX5_letter 22 = .ok (.bipush 96, 2) := by decide +kernel
theorem dX5_letter_24 : decode cX5_letter 24 = .ok (.if_icmp .ne 10, 3) := by decide +kernel
theorem dX5_letter_27 : decode cX5_letter 27 = .ok (.aload_n 0, 1) := by decide +kernel
theorem dX5_letter_28 : decode cX5_letter 28 = .ok (.bipush (-6), 2) := by decide +kernel
theorem dX5_letter_30 : decode cX5_letter 30 = .ok (.invokevirtual 35, 3) := by decide +kernel
theorem dX5_letter_33 : decode cX5_letter 33 = .ok (.ireturn, 1) := by decide +kernel
theorem dX5_letter_34 : decode cX5_letter 34 = .ok (.aload_n 0, 1) := by decide +kernel
theorem dX5_letter_35 : decode cX5_letter 35 = .ok (.getfield 22, 3) := by decide +kernel
theorem dX5_letter_38 : decode cX5_letter 38 = .ok (.aload_n 0, 1) := by decide +kernel
theorem dX5_letter_39 : decode cX5_letter 39 = .ok (.getfield 79, 3) := by decide +kernel
theorem dX5_letter_42 : decode cX5_letter 42 = .ok (.iload_n 1, 1) := by decide +kernel
theorem dX5_letter_43 : decode cX5_letter 43 = .ok (.iastore, 1) := by decide +kernel
theorem dX5_letter_44 : decode cX5_letter 44 = .ok (.aload_n 0, 1) := by decide +kernel
theorem dX5_letter_45 : decode cX5_letter 45 = .ok (.dup, 1) := by decide +kernel
theorem dX5_letter_46 : decode cX5_letter 46 = .ok (.getfield 79, 3) := by decide +kernel
theorem dX5_letter_49 : decode cX5_letter 49 = .ok (.iconst 1, 1) := by decide +kernel
theorem dX5_letter_50 : decode cX5_letter 50 = .ok (.iadd, 1) := by decide +kernel
theorem dX5_letter_51 : decode cX5_letter 51 = .ok (.putfield 79, 3) := by decide +kernel
theorem dX5_letter_54 : decode cX5_letter 54 = .ok (.aload_n 0, 1) := by decide +kernel
theorem dX5_letter_55 : decode cX5_letter 55 = .ok (.getfield 79, 3) := by decide +kernel
theorem dX5_letter_58 : decode cX5_letter 58 = .ok (.ireturn, 1) := by decide +kernel
theorem dX5_here_0 : decode cX5_here 0 = .ok (.aload_n 0, 1) := by decide +kernel
theorem dX5_here_1 : decode cX5_here 1 = .ok (.getfield 83, 3) := by decide +kernel
theorem dX5_here_4 : decode cX5_here 4 = .ok (.aload_n 0, 1) := by decide +kernel
theorem dX5_here_5 : decode cX5_here 5 = .ok (.getfield 79, 3) := by decide +kernel
theorem dX5_here_8 : decode cX5_here 8 = .ok (.if_icmp .ge 15, 3) := by decide +kernel
theorem dX5_here_11 : decode cX5_here 11 = .ok (.aload_n 0, 1) := by decide +kernel
theorem dX5_here_12 : decode cX5_here 12 = .ok (.getfield 22, 3) := by decide +kernel
theorem dX5_here_15 : decode cX5_here 15 = .ok (.aload_n 0, 1) := by decide +kernel
theorem dX5_here_16 : decode cX5_here 16 = .ok (.getfield 83, 3) := by decide +kernel
theorem dX5_here_19 : decode cX5_here 19 = .ok (.iaload, 1) := by decide +kernel
theorem dX5_here_20 : decode cX5_here 20 = .ok (.goto 4, 3) := by decide +kernel
theorem dX5_here_23 : decode cX5_here 23 = .ok (.iconst (-1), 1) := by decide +kernel
theorem dX5_here_24 : decode cX5_here 24 = .ok (.ireturn, 1) := by decide +kernel
set_option maxRecDepth 20000 in
theorem ggX5_readsNumber_X5_here : GoodIn wsX5_readsNumber wsX5_here := goodIn_r _ [7, 2, 8, 9, 13, 14, 15, 16, 17, 18, 19, 20, 21, 22, 23, 24, 25] (by decide +kernel) (by decide +kernel)
set_option maxRecDepth 20000 in
theorem gX5_readsNumber_X5_here : GoodIn wsX5_readsNumber (wsV RX5 86 RX5 yX5_here wsX5_here) := goodIn_app (goodIn_of _ (by decide +kernel)) ggX5_readsNumber_X5_here
set_option maxRecDepth 20000 in
theorem ggX5_readsNumber_X5_isIn : GoodIn wsX5_readsNumber wsX5_isIn := goodIn_r _ [12] (by decide +kernel) (by decide +kernel)
set_option maxRecDepth 20000 in
theorem gX5_readsNumber_X5_isIn : GoodIn wsX5_readsNumber (va_wsS RX5 41 yX5_isIn wsX5_isIn) := goodIn_app (goodIn_of _ (by decide +kernel)) ggX5_readsNumber_X5_isIn
theorem dX5_readsNumber_0 : decode cX5_readsNumber 0 = .ok (.aload_n 0, 1) := by decide +kernel
theorem dX5_readsNumber_1 : decode cX5_readsNumber 1 = .ok (.getfield 31, 3) := by decide +kernel
theorem dX5_readsNumber_4 : decode cX5_readsNumber 4 = .ok (.iload_n 1, 1) := by decide +kernel
theorem dX5_readsNumber_5 : decode cX5_readsNumber 5 = .ok (.iconst 0, 1) := by decide +kernel
theorem dX5_readsNumber_6 : decode cX5_readsNumber 6 = .ok (.iastore, 1) := by decide +kernel
theorem dX5_readsNumber_7 : decode cX5_readsNumber 7 = .ok (.iconst 0, 1) := by decide +kernel
theorem dX5_readsNumber_8 : decode cX5_readsNumber 8 = .ok (.istore_n 3, 1) := by decide +kernel
theorem dX5_readsNumber_9 : decode cX5_readsNumber 9 = .ok (.iload_n 3, 1) := by decide +kernel
theorem dX5_readsNumber_10 : decode cX5_readsNumber 10 = .ok (.iload_n 2, 1) := by decide +kernel
theorem dX5_readsNumber_11 : decode cX5_readsNumber 11 = .ok (.if_icmp .ge 58, 3) := by decide +kernel
theorem dX5_readsNumber_14 : decode cX5_readsNumber 14 = .ok (.aload_n 0, 1) := by decide +kernel
theorem dX5_readsNumber_15 : decode cX5_readsNumber 15 = .ok (.invokevirtual 86, 3) := by decide +kernel
theorem dX5_readsNumber_18 : decode cX5_readsNumber 18 = .ok (.bipush 48, 2) := by decide +kernel
theorem dX5_readsNumber_20 : decode cX5_readsNumber 20 = .ok (.bipush 57, 2) := by decide +kernel
theorem dX5_readsNumber_22 : decode cX5_readsNumber 22 = .ok (.invokestatic 41, 3) := by decide +kernel
theorem dX5_readsNumber_25 : decode cX5_readsNumber 25 = .ok (.ifCond .ne 5, 3) := by decide +kernel
theorem dX5_readsNumber_28 : decode cX5_readsNumber 28 = .ok (.iconst 0, 1) := by decide +kernel
theorem dX5_readsNumber_29 : decode cX5_readsNumber 29 = .ok (.ireturn, 1) := by decide +kernel
theorem dX5_readsNumber_30 : decode cX5_readsNumber 30 = .ok (.aload_n 0, 1) := by decide +kernel
theorem dX5_readsNumber_31 : decode cX5_readsNumber 31 = .ok (.getfield 31, 3) := by decide +kernel
theorem dX5_readsNumber_34 : decode cX5_readsNumber 34 = .ok (.iload_n 1, 1) := by decide +kernel
theorem dX5_readsNumber_35 : decode cX5_readsNumber 35 = .ok (.bipush 10, 2) := by decide +kernel
theorem dX5_readsNumber_37 : decode cX5_readsNumber 37 = .ok (.aload_n 0, 1) := by decide +kernel
theorem dX5_readsNumber_38 : decode cX5_readsNumber 38 = .ok (.getfield 31, 3) := by decide +kernel
theorem dX5_readsNumber_41 : decode cX5_readsNumber 41 = .ok (.iload_n 1, 1) := by decide +kernel
theorem dX5_readsNumber_42 : decode cX5_readsNumber 42 = .ok (.iaload, 1) := by decide +kernel
theorem dX5_readsNumber_43 : decode cX5_readsNumber 43 = .ok (.imul, 1) := by decide +kernel
theorem dX5_readsNumber_44 : decode cX5_readsNumber 44 = .ok (.aload_n 0, 1) := by decide +kernel
theorem dX5_readsNumber_45 : decode cX5_readsNumber 45 = .ok (.invokevirtual 86, 3) := by decide +kernel
theorem dX5_readsNumber_48 : decode cX5_readsNumber 48 = .ok (.iadd, 1) := by decide +kernel
theorem dX5_readsNumber_49 : decode cX5_readsNumber 49 = .ok (.bipush 48, 2) := by decide +kernel
theorem dX5_readsNumber_51 : decode cX5_readsNumber 51 = .ok (.isub, 1) := by decide +kernel
theorem dX5_readsNumber_52 : decode cX5_readsNumber 52 = .ok (.iastore, 1) := by decide +kernel
theorem dX5_readsNumber_53 : decode cX5_readsNumber 53 = .ok (.aload_n 0, 1) := by decide +kernel
theorem dX5_readsNumber_54 : decode cX5_readsNumber 54 = .ok (.dup, 1) := by decide +kernel
theorem dX5_readsNumber_55 : decode cX5_readsNumber 55 = .ok (.getfield 83, 3) := by decide +kernel
theorem dX5_readsNumber_58 : decode cX5_readsNumber 58 = .ok (.iconst 1, 1) := by decide +kernel
theorem dX5_readsNumber_59 : decode cX5_readsNumber 59 = .ok (.iadd, 1) := by decide +kernel
theorem dX5_readsNumber_60 : decode cX5_readsNumber 60 = .ok (.putfield 83, 3) := by decide +kernel
theorem dX5_readsNumber_63 : decode cX5_readsNumber 63 = .ok (.iinc 3 1, 3) := by decide +kernel
theorem dX5_readsNumber_66 : decode cX5_readsNumber 66 = .ok (.goto (-57), 3) := by decide +kernel
theorem dX5_readsNumber_69 : decode cX5_readsNumber 69 = .ok (.iconst 1, 1) := by decide +kernel
theorem dX5_readsNumber_70 : decode cX5_readsNumber 70 = .ok (.ireturn, 1) := by decide +kernel
theorem dX5_kindBy_0 : decode cX5_kindBy 0 = .ok (.iload_n 0, 1) := by decide +kernel
theorem dX5_kindBy_1 : decode cX5_kindBy 1 = .ok (.tableswitch 99 99 116 #[87, 95, 99, 99, 97, 91, 99, 99, 99, 99, 89, 99, 99, 99, 99, 99, 99, 93], 87) := by decide +kernel
theorem dX5_kindBy_88 : decode cX5_kindBy 88 = .ok (.iconst 0, 1) := by decide +kernel
theorem dX5_kindBy_89 : decode cX5_kindBy 89 = .ok (.ireturn, 1) := by decide +kernel
theorem dX5_kindBy_90 : decode cX5_kindBy 90 = .ok (.iconst 1, 1) := by decide +kernel
theorem dX5_kindBy_91 : decode cX5_kindBy 91 = .ok (.ireturn, 1) := by decide +kernel
theorem dX5_kindBy_92 : decode cX5_kindBy 92 = .ok (.iconst 2, 1) := by decide +kernel
theorem dX5_kindBy_93 : decode cX5_kindBy 93 = .ok (.ireturn, 1) := by decide +kernel
theorem dX5_kindBy_94 : decode cX5_kindBy 94 = .ok (.iconst 3, 1) := by decide +kernel
theorem dX5_kindBy_95 : decode cX5_kindBy 95 = .ok (.ireturn, 1) := by decide +kernel
theorem dX5_kindBy_96 : decode cX5_kindBy 96 = .ok (.iconst 4, 1) := by decide +kernel
theorem dX5_kindBy_97 : decode cX5_kindBy 97 = .ok (.ireturn, 1) := by decide +kernel
theorem dX5_kindBy_98 : decode cX5_kindBy 98 = .ok (.iconst 5, 1) := by decide +kernel
theorem dX5_kindBy_99 : decode cX5_kindBy 99 = .ok (.ireturn, 1) := by decide +kernel
theorem dX5_kindBy_100 : decode cX5_kindBy 100 = .ok (.bipush (-9), 2) := by decide +kernel
theorem dX5_kindBy_102 : decode cX5_kindBy 102 = .ok (.ireturn, 1) := by decide +kernel
set_option maxRecDepth 20000 in
theorem ggX5_readsKind_X5_here : GoodIn wsX5_readsKind wsX5_here := goodIn_r _ [7, 2, 8, 9, 13, 14, 15, 16, 17, 18, 19, 20, 21, 22, 23, 24, 25] (by decide +kernel) (by decide +kernel)
set_option maxRecDepth 20000 in
theorem gX5_readsKind_X5_here : GoodIn wsX5_readsKind (wsV RX5 86 RX5 yX5_here wsX5_here) := goodIn_app (goodIn_of _ (by decide +kernel)) ggX5_readsKind_X5_here
set_option maxRecDepth 20000 in
theorem ggX5_readsKind_X5_kindBy : GoodIn wsX5_readsKind wsX5_kindBy := goodIn_r _ [12] (by decide +kernel) (by decide +kernel)
set_option maxRecDepth 20000 in
theorem gX5_readsKind_X5_kindBy : GoodIn wsX5_readsKind (va_wsS RX5 90 yX5_kindBy wsX5_kindBy) := goodIn_app (goodIn_of _ (by decide +kernel)) ggX5_readsKind_X5_kindBy
theorem dX5_readsKind_0 : decode cX5_readsKind 0 = .ok (.aload_n 0, 1) := by decide +kernel
theorem dX5_readsKind_1 : decode cX5_readsKind 1 = .ok (.getfield 31, 3) := by decide +kernel
theorem dX5_readsKind_4 : decode cX5_readsKind 4 = .ok (.iconst 0, 1) := by decide +kernel
theorem dX5_readsKind_5 : decode cX5_readsKind 5 = .ok (.aload_n 0, 1) := by decide +kernel
theorem dX5_readsKind_6 : decode cX5_readsKind 6 = .ok (.invokevirtual 86, 3) := by decide +kernel
theorem dX5_readsKind_9 : decode cX5_readsKind 9 = .ok (.invokestatic 90, 3) := by decide +kernel
theorem dX5_readsKind_12 : decode cX5_readsKind 12 = .ok (.iastore, 1) := by decide +kernel
theorem dX5_readsKind_13 : decode cX5_readsKind 13 = .ok (.aload_n 0, 1) := by decide +kernel
theorem dX5_readsKind_14 : decode cX5_readsKind 14 = .ok (.dup, 1) := by decide +kernel
theorem dX5_readsKind_15 : decode cX5_readsKind 15 = .ok (.getfield 83, 3) := by decide +kernel
theorem dX5_readsKind_18 : decode cX5_readsKind 18 = .ok (.aload_n 0, 1) := by decide +kernel
theorem dX5_readsKind_19 : decode cX5_readsKind 19 = .ok (.getfield 31, 3) := by decide +kernel
theorem dX5_readsKind_22 : decode cX5_readsKind 22 = .ok (.iconst 0, 1) := by decide +kernel
theorem dX5_readsKind_23 : decode cX5_readsKind 23 = .ok (.iaload, 1) := by decide +kernel
theorem dX5_readsKind_24 : decode cX5_readsKind 24 = .ok (.ifCond .ge 7, 3) := by decide +kernel
theorem dX5_readsKind_27 : decode cX5_readsKind 27 = .ok (.iconst 0, 1) := by decide +kernel
theorem dX5_readsKind_28 : decode cX5_readsKind 28 = .ok (.goto 4, 3) := by decide +kernel
theorem dX5_readsKind_31 : decode cX5_readsKind 31 = .ok (.iconst 1, 1) := by decide +kernel
theorem dX5_readsKind_32 : decode cX5_readsKind 32 = .ok (.iadd, 1) := by decide +kernel
theorem dX5_readsKind_33 : decode cX5_readsKind 33 = .ok (.putfield 83, 3) := by decide +kernel
theorem dX5_readsKind_36 : decode cX5_readsKind 36 = .ok (.aload_n 0, 1) := by decide +kernel
theorem dX5_readsKind_37 : decode cX5_readsKind 37 = .ok (.getfield 31, 3) := by decide +kernel
theorem dX5_readsKind_40 : decode cX5_readsKind 40 = .ok (.iconst 0, 1) := by decide +kernel
theorem dX5_readsKind_41 : decode cX5_readsKind 41 = .ok (.iaload, 1) := by decide +kernel
theorem dX5_readsKind_42 : decode cX5_readsKind 42 = .ok (.ifCond .lt 7, 3) := by decide +kernel
theorem dX5_readsKind_45 : decode cX5_readsKind 45 = .ok (.iconst 1, 1) := by decide +kernel
theorem dX5_readsKind_46 : decode cX5_readsKind 46 = .ok (.goto 4, 3) := by decide +kernel
theorem dX5_readsKind_49 : decode cX5_readsKind 49 = .ok (.iconst 0, 1) := by decide +kernel
theorem dX5_readsKind_50 : decode cX5_readsKind 50 = .ok (.ireturn, 1) := by decide +kernel
set_option maxRecDepth 20000 in
theorem ggX5_readsStatement_X5_here : GoodIn wsX5_readsStatement wsX5_here := goodIn_r _ [6, 1, 7, 8, 24, 25, 26, 27, 28, 29, 30, 31, 32, 33, 34, 35, 36] (by decide +kernel) (by decide +kernel)
set_option maxRecDepth 20000 in
theorem gX5_readsStatement_X5_here : GoodIn wsX5_readsStatement (wsV RX5 86 RX5 yX5_here wsX5_here) := goodIn_app (goodIn_of _ (by decide +kernel)) ggX5_readsStatement_X5_here
set_option maxRecDepth 20000 in
theorem ggX5_readsStatement_X5_readsKind : GoodIn wsX5_readsStatement wsX5_readsKind := goodIn_r _ [12, 13, 1, 2, 3, 4, 5, 6, 7, 8, 14, 15, 16, 24, 25, 26, 27, 28, 29, 30, 31, 32, 33, 34, 35, 36] (by decide +kernel) (by decide +kernel)
set_option maxRecDepth 20000 in
theorem gX5_readsStatement_X5_readsKind : GoodIn wsX5_readsStatement (wsV RX5 93 RX5 yX5_readsKind wsX5_readsKind) := goodIn_app (goodIn_of _ (by decide +kernel)) ggX5_readsStatement_X5_readsKind
set_option maxRecDepth 20000 in
theorem ggX5_readsStatement_X5_readsNumber : GoodIn wsX5_readsStatement wsX5_readsNumber := goodIn_r _ [20, 13, 1, 2, 3, 4, 5, 6, 7, 8, 21, 22, 23, 24, 25, 26, 27, 28, 29, 30, 31, 32, 33, 34, 35, 36] (by decide +kernel) (by decide +kernel)
set_option maxRecDepth 20000 in
theorem gX5_readsStatement_X5_readsNumber : GoodIn wsX5_readsStatement (wsV RX5 97 RX5 yX5_readsNumber wsX5_readsNumber) := goodIn_app (goodIn_of _ (by decide +kernel)) ggX5_readsStatement_X5_readsNumber
theorem dX5_readsStatement_0 : decode cX5_readsStatement 0 = .ok (.aload_n 0, 1) := by decide +kernel
theorem dX5_readsStatement_1 : decode cX5_readsStatement 1 = .ok (.invokevirtual 86, 3) := by decide +kernel
theorem dX5_readsStatement_4 : decode cX5_readsStatement 4 = .ok (.istore_n 1, 1) := by decide +kernel
theorem dX5_readsStatement_5 : decode cX5_readsStatement 5 = .ok (.aload_n 0, 1) := by decide +kernel
theorem dX5_readsStatement_6 : decode cX5_readsStatement 6 = .ok (.dup, 1) := by decide +kernel
theorem dX5_readsStatement_7 : decode cX5_readsStatement 7 = .ok (.getfield 83, 3) := by decide +kernel
theorem dX5_readsStatement_10 : decode cX5_readsStatement 10 = .ok (.iconst 1, 1) := by decide +kernel
theorem dX5_readsStatement_11 : decode cX5_readsStatement 11 = .ok (.iadd, 1) := by decide +kernel
theorem dX5_readsStatement_12 : decode cX5_readsStatement 12 = .ok (.putfield 83, 3) := by decide +kernel
theorem dX5_readsStatement_15 : decode cX5_readsStatement 15 = .ok (.iload_n 1, 1) := by decide +kernel
theorem dX5_readsStatement_16 : decode cX5_readsStatement 16 = .ok (.tableswitch 179 100 117 #[169, 179, 179, 159, 179, 122, 179, 179, 179, 179, 179, 179, 88, 179, 149, 179, 179, 122], 88) := by decide +kernel
theorem dX5_readsStatement_104 : decode cX5_readsStatement 104 = .ok (.aload_n 0, 1) := by decide +kernel
theorem dX5_readsStatement_105 : decode cX5_readsStatement 105 = .ok (.invokevirtual 93, 3) := by decide +kernel
theorem dX5_readsStatement_108 : decode cX5_readsStatement 108 = .ok (.ifCond .eq 25, 3) := by decide +kernel
theorem dX5_readsStatement_111 : decode cX5_readsStatement 111 = .ok (.aload_n 0, 1) := by decide +kernel
theorem dX5_readsStatement_112 : decode cX5_readsStatement 112 = .ok (.iconst 1, 1) := by decide +kernel
theorem dX5_readsStatement_113 : decode cX5_readsStatement 113 = .ok (.iconst 1, 1) := by decide +kernel
theorem dX5_readsStatement_114 : decode cX5_readsStatement 114 = .ok (.invokevirtual 97, 3) := by decide +kernel
theorem dX5_readsStatement_117 : decode cX5_readsStatement 117 = .ok (.ifCond .eq 16, 3) := by decide +kernel
theorem dX5_readsStatement_120 : decode cX5_readsStatement 120 = .ok (.aload_n 0, 1) := by decide +kernel
theorem dX5_readsStatement_121 : decode cX5_readsStatement 121 = .ok (.iconst 2, 1) := by decide +kernel
theorem dX5_readsStatement_122 : decode cX5_readsStatement 122 = .ok (.iconst 2, 1) := by decide +kernel
theorem dX5_readsStatement_123 : decode cX5_readsStatement 123 = .ok (.invokevirtual 97, 3) := by decide +kernel
theorem dX5_readsStatement_126 : decode cX5_readsStatement 126 = .ok (.ifCond .eq 7, 3) := by decide +kernel
theorem dX5_readsStatement_129 : decode cX5_readsStatement 129 = .ok (.iconst 1, 1) := by decide +kernel
theorem dX5_readsStatement_130 : decode cX5_readsStatement 130 = .ok (.goto 4, 3) := by decide +kernel
theorem dX5_readsStatement_133 : decode cX5_readsStatement 133 = .ok (.iconst 0, 1) := by decide +kernel
theorem dX5_readsStatement_134 : decode cX5_readsStatement 134 = .ok (.istore_n 2, 1) := by decide +kernel
theorem dX5_readsStatement_135 : decode cX5_readsStatement 135 = .ok (.goto 72, 3) := by decide +kernel
theorem dX5_readsStatement_138 : decode cX5_readsStatement 138 = .ok (.aload_n 0, 1) := by decide +kernel
theorem dX5_readsStatement_139 : decode cX5_readsStatement 139 = .ok (.iconst 0, 1) := by decide +kernel
theorem dX5_readsStatement_140 : decode cX5_readsStatement 140 = .ok (.iconst 1, 1) := by decide +kernel
theorem dX5_readsStatement_141 : decode cX5_readsStatement 141 = .ok (.invokevirtual 97, 3) := by decide +kernel
theorem dX5_readsStatement_144 : decode cX5_readsStatement 144 = .ok (.ifCond .eq 16, 3) := by decide +kernel
theorem dX5_readsStatement_147 : decode cX5_readsStatement 147 = .ok (.aload_n 0, 1) := by decide +kernel
theorem dX5_readsStatement_148 : decode cX5_readsStatement 148 = .ok (.iconst 1, 1) := by decide +kernel
theorem dX5_readsStatement_149 : decode cX5_readsStatement 149 = .ok (.iconst 2, 1) := by decide +kernel
theorem dX5_readsStatement_150 : decode cX5_readsStatement 150 = .ok (.invokevirtual 97, 3) := by decide +kernel
theorem dX5_readsStatement_153 : decode cX5_readsStatement 153 = .ok (.ifCond .eq 7, 3) := by decide +kernel
theorem dX5_readsStatement_156 : decode cX5_readsStatement 156 = .ok (.iconst 1, 1) := by decide +kernel
theorem dX5_readsStatement_157 : decode cX5_readsStatement 157 = .ok (.goto 4, 3) := by decide +kernel
theorem dX5_readsStatement_160 : decode cX5_readsStatement 160 = .ok (.iconst 0, 1) := by decide +kernel
theorem dX5_readsStatement_161 : decode cX5_readsStatement 161 = .ok (.istore_n 2, 1) := by decide +kernel
theorem dX5_readsStatement_162 : decode cX5_readsStatement 162 = .ok (.goto 45, 3) := by decide +kernel
theorem dX5_readsStatement_165 : decode cX5_readsStatement 165 = .ok (.aload_n 0, 1) := by decide +kernel
theorem dX5_readsStatement_166 : decode cX5_readsStatement 166 = .ok (.iconst 0, 1) := by decide +kernel
theorem dX5_readsStatement_167 : decode cX5_readsStatement 167 = .ok (.iconst 1, 1) := by decide +kernel
theorem dX5_readsStatement_168 : decode cX5_readsStatement 168 = .ok (.invokevirtual 97, 3) := by decide +kernel
theorem dX5_readsStatement_171 : decode cX5_readsStatement 171 = .ok (.istore_n 2, 1) := by decide +kernel
theorem dX5_readsStatement_172 : decode cX5_readsStatement 172 = .ok (.goto 35, 3) := by decide +kernel
theorem dX5_readsStatement_175 : decode cX5_readsStatement 175 = .ok (.aload_n 0, 1) := by decide +kernel
theorem dX5_readsStatement_176 : decode cX5_readsStatement 176 = .ok (.iconst 0, 1) := by decide +kernel
theorem dX5_readsStatement_177 : decode cX5_readsStatement 177 = .ok (.iconst 3, 1) := by decide +kernel
theorem dX5_readsStatement_178 : decode cX5_readsStatement 178 = .ok (.invokevirtual 97, 3) := by decide +kernel
theorem dX5_readsStatement_181 : decode cX5_readsStatement 181 = .ok (.istore_n 2, 1) := by decide +kernel
theorem dX5_readsStatement_182 : decode cX5_readsStatement 182 = .ok (.goto 25, 3) := by decide +kernel
theorem dX5_readsStatement_185 : decode cX5_readsStatement 185 = .ok (.aload_n 0, 1) := by decide +kernel
theorem dX5_readsStatement_186 : decode cX5_readsStatement 186 = .ok (.iconst 0, 1) := by decide +kernel
theorem dX5_readsStatement_187 : decode cX5_readsStatement 187 = .ok (.iconst 2, 1) := by decide +kernel
theorem dX5_readsStatement_188 : decode cX5_readsStatement 188 = .ok (.invokevirtual 97, 3) := by decide +kernel
theorem dX5_readsStatement_191 : decode cX5_readsStatement 191 = .ok (.istore_n 2, 1) := by decide +kernel
theorem dX5_readsStatement_192 : decode cX5_readsStatement 192 = .ok (.goto 15, 3) := by decide +kernel
theorem dX5_readsStatement_195 : decode cX5_readsStatement 195 = .ok (.aload_n 0, 1) := by decide +kernel
theorem dX5_readsStatement_196 : decode cX5_readsStatement 196 = .ok (.dup, 1) := by decide +kernel
theorem dX5_readsStatement_197 : decode cX5_readsStatement 197 = .ok (.getfield 83, 3) := by decide +kernel
theorem dX5_readsStatement_200 : decode cX5_readsStatement 200 = .ok (.iconst 1, 1) := by decide +kernel
theorem dX5_readsStatement_201 : decode cX5_readsStatement 201 = .ok (.isub, 1) := by decide +kernel
theorem dX5_readsStatement_202 : decode cX5_readsStatement 202 = .ok (.putfield 83, 3) := by decide +kernel
theorem dX5_readsStatement_205 : decode cX5_readsStatement 205 = .ok (.iconst 0, 1) := by decide +kernel
theorem dX5_readsStatement_206 : decode cX5_readsStatement 206 = .ok (.ireturn, 1) := by decide +kernel
theorem dX5_readsStatement_207 : decode cX5_readsStatement 207 = .ok (.iload_n 2, 1) := by decide +kernel
theorem dX5_readsStatement_208 : decode cX5_readsStatement 208 = .ok (.ifCond .eq 12, 3) := by decide +kernel
theorem dX5_readsStatement_211 : decode cX5_readsStatement 211 = .ok (.aload_n 0, 1) := by decide +kernel
theorem dX5_readsStatement_212 : decode cX5_readsStatement 212 = .ok (.invokevirtual 86, 3) := by decide +kernel
theorem dX5_readsStatement_215 : decode cX5_readsStatement 215 = .ok (.bipush 59, 2) := by decide +kernel
theorem dX5_readsStatement_217 : decode cX5_readsStatement 217 = .ok (.if_icmp .eq 5, 3) := by decide +kernel
theorem dX5_readsStatement_220 : decode cX5_readsStatement 220 = .ok (.iconst 0, 1) := by decide +kernel
theorem dX5_readsStatement_221 : decode cX5_readsStatement 221 = .ok (.ireturn, 1) := by decide +kernel
theorem dX5_readsStatement_222 : decode cX5_readsStatement 222 = .ok (.aload_n 0, 1) := by decide +kernel
theorem dX5_readsStatement_223 : decode cX5_readsStatement 223 = .ok (.dup, 1) := by decide +kernel
theorem dX5_readsStatement_224 : decode cX5_readsStatement 224 = .ok (.getfield 83, 3) := by decide +kernel
theorem dX5_readsStatement_227 : decode cX5_readsStatement 227 = .ok (.iconst 1, 1) := by decide +kernel
theorem dX5_readsStatement_228 : decode cX5_readsStatement 228 = .ok (.iadd, 1) := by decide +kernel
theorem dX5_readsStatement_229 : decode cX5_readsStatement 229 = .ok (.putfield 83, 3) := by decide +kernel
theorem dX5_readsStatement_232 : decode cX5_readsStatement 232 = .ok (.iconst 1, 1) := by decide +kernel
theorem dX5_readsStatement_233 : decode cX5_readsStatement 233 = .ok (.ireturn, 1) := by decide +kernel
set_option maxRecDepth 20000 in
theorem ggX5_adds_X5_of : GoodIn wsX5_adds wsX5_of := goodIn_r _ [5] (by decide +kernel) (by decide +kernel)
set_option maxRecDepth 20000 in
theorem gX5_adds_X5_of : GoodIn wsX5_adds (va_wsS RX5 45 yX5_of wsX5_of) := goodIn_app (goodIn_of _ (by decide +kernel)) ggX5_adds_X5_of
theorem dX5_adds_0 : decode cX5_adds 0 = .ok (.iload_n 3, 1) := by decide +kernel
theorem dX5_adds_1 : decode cX5_adds 1 = .ok (.bipush 60, 2) := by decide +kernel
theorem dX5_adds_3 : decode cX5_adds 3 = .ok (.if_icmp .gt 14, 3) := by decide +kernel
theorem dX5_adds_6 : decode cX5_adds 6 = .ok (.aload_n 0, 1) := by decide +kernel
theorem dX5_adds_7 : decode cX5_adds 7 = .ok (.getfield 9, 3) := by decide +kernel
theorem dX5_adds_10 : decode cX5_adds 10 = .ok (.iconst 0, 1) := by decide +kernel
theorem dX5_adds_11 : decode cX5_adds 11 = .ok (.iaload, 1) := by decide +kernel
theorem dX5_adds_12 : decode cX5_adds 12 = .ok (.bipush 8, 2) := by decide +kernel
theorem dX5_adds_14 : decode cX5_adds 14 = .ok (.if_icmp .ne 5, 3) := by decide +kernel
theorem dX5_adds_17 : decode cX5_adds 17 = .ok (.iconst 0, 1) := by decide +kernel
theorem dX5_adds_18 : decode cX5_adds 18 = .ok (.ireturn, 1) := by decide +kernel
theorem dX5_adds_19 : decode cX5_adds 19 = .ok (.aload_n 0, 1) := by decide +kernel
theorem dX5_adds_20 : decode cX5_adds 20 = .ok (.getfield 9, 3) := by decide +kernel
theorem dX5_adds_23 : decode cX5_adds 23 = .ok (.iconst 0, 1) := by decide +kernel
theorem dX5_adds_24 : decode cX5_adds 24 = .ok (.iaload, 1) := by decide +kernel
theorem dX5_adds_25 : decode cX5_adds 25 = .ok (.istore 4, 2) := by decide +kernel
theorem dX5_adds_27 : decode cX5_adds 27 = .ok (.iconst 0, 1) := by decide +kernel
theorem dX5_adds_28 : decode cX5_adds 28 = .ok (.istore 5, 2) := by decide +kernel
theorem dX5_adds_30 : decode cX5_adds 30 = .ok (.iload 5, 2) := by decide +kernel
theorem dX5_adds_32 : decode cX5_adds 32 = .ok (.bipush 6, 2) := by decide +kernel
theorem dX5_adds_34 : decode cX5_adds 34 = .ok (.if_icmp .ge 22, 3) := by decide +kernel
theorem dX5_adds_37 : decode cX5_adds 37 = .ok (.aload_n 0, 1) := by decide +kernel
theorem dX5_adds_38 : decode cX5_adds 38 = .ok (.getfield 9, 3) := by decide +kernel
theorem dX5_adds_41 : decode cX5_adds 41 = .ok (.iload 4, 2) := by decide +kernel
theorem dX5_adds_43 : decode cX5_adds 43 = .ok (.iload 5, 2) := by decide +kernel
theorem dX5_adds_45 : decode cX5_adds 45 = .ok (.invokestatic 45, 3) := by decide +kernel
theorem dX5_adds_48 : decode cX5_adds 48 = .ok (.iconst 0, 1) := by decide +kernel
theorem dX5_adds_49 : decode cX5_adds 49 = .ok (.iastore, 1) := by decide +kernel
theorem dX5_adds_50 : decode cX5_adds 50 = .ok (.iinc 5 1, 3) := by decide +kernel
theorem dX5_adds_53 : decode cX5_adds 53 = .ok (.goto (-23), 3) := by decide +kernel
theorem dX5_adds_56 : decode cX5_adds 56 = .ok (.aload_n 0, 1) := by decide +kernel
theorem dX5_adds_57 : decode cX5_adds 57 = .ok (.getfield 9, 3) := by decide +kernel
theorem dX5_adds_60 : decode cX5_adds 60 = .ok (.iload 4, 2) := by decide +kernel
theorem dX5_adds_62 : decode cX5_adds 62 = .ok (.iconst 0, 1) := by decide +kernel
theorem dX5_adds_63 : decode cX5_adds 63 = .ok (.invokestatic 45, 3) := by decide +kernel
