set_option maxRecDepth 20000 in
theorem ggX1_init_X2_init : GoodIn wsX1_init wsX2_init := goodIn_r _ [10, 11, 2, 3] (by decide +kernel) (by decide +kernel)
set_option maxRecDepth 20000 in
theorem gX1_init_X2_init_n17 : GoodIn wsX1_init (wsX2_init) := ggX1_init_X2_init
theorem dX1_init_0 : decode cX1_init 0 = .ok (.aload_n 0, 1) := by decide +kernel
theorem dX1_init_1 : decode cX1_init 1 = .ok (.invokespecial 3, 3) := by decide +kernel
theorem dX1_init_4 : decode cX1_init 4 = .ok (.aload_n 0, 1) := by decide +kernel
theorem dX1_init_5 : decode cX1_init 5 = .ok (.bipush 8, 2) := by decide +kernel
theorem dX1_init_7 : decode cX1_init 7 = .ok (.anewarray 9, 3) := by decide +kernel
theorem dX1_init_10 : decode cX1_init 10 = .ok (.putfield 11, 3) := by decide +kernel
theorem dX1_init_13 : decode cX1_init 13 = .ok (.aload_n 0, 1) := by decide +kernel
theorem dX1_init_14 : decode cX1_init 14 = .ok (.new 9, 3) := by decide +kernel
theorem dX1_init_17 : decode cX1_init 17 = .ok (.dup, 1) := by decide +kernel
theorem dX1_init_18 : decode cX1_init 18 = .ok (.invokespecial 17, 3) := by decide +kernel
theorem dX1_init_21 : decode cX1_init 21 = .ok (.putfield 18, 3) := by decide +kernel
theorem dX1_init_24 : decode cX1_init 24 = .ok (.iconst 0, 1) := by decide +kernel
theorem dX1_init_25 : decode cX1_init 25 = .ok (.istore_n 1, 1) := by decide +kernel
theorem dX1_init_26 : decode cX1_init 26 = .ok (.iload_n 1, 1) := by decide +kernel
theorem dX1_init_27 : decode cX1_init 27 = .ok (.aload_n 0, 1) := by decide +kernel
theorem dX1_init_28 : decode cX1_init 28 = .ok (.getfield 11, 3) := by decide +kernel
theorem dX1_init_31 : decode cX1_init 31 = .ok (.arraylength, 1) := by decide +kernel
theorem dX1_init_32 : decode cX1_init 32 = .ok (.if_icmp .ge 22, 3) := by decide +kernel
theorem dX1_init_35 : decode cX1_init 35 = .ok (.aload_n 0, 1) := by decide +kernel
theorem dX1_init_36 : decode cX1_init 36 = .ok (.getfield 11, 3) := by decide +kernel
theorem dX1_init_39 : decode cX1_init 39 = .ok (.iload_n 1, 1) := by decide +kernel
theorem dX1_init_40 : decode cX1_init 40 = .ok (.new 9, 3) := by decide +kernel
theorem dX1_init_43 : decode cX1_init 43 = .ok (.dup, 1) := by decide +kernel
theorem dX1_init_44 : decode cX1_init 44 = .ok (.invokespecial 17, 3) := by decide +kernel
theorem dX1_init_47 : decode cX1_init 47 = .ok (.aastore, 1) := by decide +kernel
theorem dX1_init_48 : decode cX1_init 48 = .ok (.iinc 1 1, 3) := by decide +kernel
theorem dX1_init_51 : decode cX1_init 51 = .ok (.goto (-25), 3) := by decide +kernel
theorem dX1_init_54 : decode cX1_init 54 = .ok (.return_, 1) := by decide +kernel
theorem dX1_knows_0 : decode cX1_knows 0 = .ok (.iload_n 1, 1) := by decide +kernel
theorem dX1_knows_1 : decode cX1_knows 1 = .ok (.ifCond .lt 15, 3) := by decide +kernel
theorem dX1_knows_4 : decode cX1_knows 4 = .ok (.iload_n 1, 1) := by decide +kernel
theorem dX1_knows_5 : decode cX1_knows 5 = .ok (.aload_n 0, 1) := by decide +kernel
theorem dX1_knows_6 : decode cX1_knows 6 = .ok (.getfield 22, 3) := by decide +kernel
theorem dX1_knows_9 : decode cX1_knows 9 = .ok (.if_icmp .ge 7, 3) := by decide +kernel
theorem dX1_knows_12 : decode cX1_knows 12 = .ok (.iconst 1, 1) := by decide +kernel
theorem dX1_knows_13 : decode cX1_knows 13 = .ok (.goto 4, 3) := by decide +kernel
theorem dX1_knows_16 : decode cX1_knows 16 = .ok (.iconst 0, 1) := by decide +kernel
theorem dX1_knows_17 : decode cX1_knows 17 = .ok (.ireturn, 1) := by decide +kernel
theorem dX1_at_0 : decode cX1_at 0 = .ok (.iload_n 1, 1) := by decide +kernel
theorem dX1_at_1 : decode cX1_at 1 = .ok (.ifCond .lt 21, 3) := by decide +kernel
theorem dX1_at_4 : decode cX1_at 4 = .ok (.iload_n 1, 1) := by decide +kernel
theorem dX1_at_5 : decode cX1_at 5 = .ok (.aload_n 0, 1) := by decide +kernel
theorem dX1_at_6 : decode cX1_at 6 = .ok (.getfield 11, 3) := by decide +kernel
theorem dX1_at_9 : decode cX1_at 9 = .ok (.arraylength, 1) := by decide +kernel
theorem dX1_at_10 : decode cX1_at 10 = .ok (.if_icmp .ge 12, 3) := by decide +kernel
theorem dX1_at_13 : decode cX1_at 13 = .ok (.aload_n 0, 1) := by decide +kernel
theorem dX1_at_14 : decode cX1_at 14 = .ok (.getfield 11, 3) := by decide +kernel
theorem dX1_at_17 : decode cX1_at 17 = .ok (.iload_n 1, 1) := by decide +kernel
theorem dX1_at_18 : decode cX1_at 18 = .ok (.aaload, 1) := by decide +kernel
theorem dX1_at_19 : decode cX1_at 19 = .ok (.goto 7, 3) := by decide +kernel
theorem dX1_at_22 : decode cX1_at 22 = .ok (.aload_n 0, 1) := by decide +kernel
theorem dX1_at_23 : decode cX1_at 23 = .ok (.getfield 18, 3) := by decide +kernel
theorem dX1_at_26 : decode cX1_at 26 = .ok (.areturn, 1) := by decide +kernel
set_option maxRecDepth 20000 in
theorem ggX1_takeFrom_X1_at : GoodIn wsX1_takeFrom wsX1_at := goodIn_r _ [9, 10, 11, 25, 26, 27, 28, 29, 30] (by decide +kernel) (by decide +kernel)
set_option maxRecDepth 20000 in
theorem gX1_takeFrom_X1_at : GoodIn wsX1_takeFrom (wsV RX1 35 RX1 yX1_at wsX1_at) := goodIn_app (goodIn_of _ (by decide +kernel)) ggX1_takeFrom_X1_at
set_option maxRecDepth 20000 in
theorem ggX1_takeFrom_X2_takeFrom : GoodIn wsX1_takeFrom wsX2_takeFrom := goodIn_r _ [16, 17, 18, 19, 20, 21, 22, 23, 24, 31, 32, 33, 34, 35, 36, 37, 38] (by decide +kernel) (by decide +kernel)
set_option maxRecDepth 20000 in
theorem gX1_takeFrom_X2_takeFrom : GoodIn wsX1_takeFrom (wsV RX1 39 RX2 yX2_takeFrom wsX2_takeFrom) := goodIn_app (goodIn_of _ (by decide +kernel)) ggX1_takeFrom_X2_takeFrom
theorem dX1_takeFrom_0 : decode cX1_takeFrom 0 = .ok (.aload_n 0, 1) := by decide +kernel
theorem dX1_takeFrom_1 : decode cX1_takeFrom 1 = .ok (.aload_n 1, 1) := by decide +kernel
theorem dX1_takeFrom_2 : decode cX1_takeFrom 2 = .ok (.getfield 22, 3) := by decide +kernel
theorem dX1_takeFrom_5 : decode cX1_takeFrom 5 = .ok (.putfield 22, 3) := by decide +kernel
theorem dX1_takeFrom_8 : decode cX1_takeFrom 8 = .ok (.aload_n 0, 1) := by decide +kernel
theorem dX1_takeFrom_9 : decode cX1_takeFrom 9 = .ok (.aload_n 1, 1) := by decide +kernel
theorem dX1_takeFrom_10 : decode cX1_takeFrom 10 = .ok (.getfield 26, 3) := by decide +kernel
theorem dX1_takeFrom_13 : decode cX1_takeFrom 13 = .ok (.putfield 26, 3) := by decide +kernel
theorem dX1_takeFrom_16 : decode cX1_takeFrom 16 = .ok (.aload_n 0, 1) := by decide +kernel
theorem dX1_takeFrom_17 : decode cX1_takeFrom 17 = .ok (.aload_n 1, 1) := by decide +kernel
theorem dX1_takeFrom_18 : decode cX1_takeFrom 18 = .ok (.getfield 29, 3) := by decide +kernel
theorem dX1_takeFrom_21 : decode cX1_takeFrom 21 = .ok (.putfield 29, 3) := by decide +kernel
theorem dX1_takeFrom_24 : decode cX1_takeFrom 24 = .ok (.aload_n 0, 1) := by decide +kernel
theorem dX1_takeFrom_25 : decode cX1_takeFrom 25 = .ok (.aload_n 1, 1) := by decide +kernel
theorem dX1_takeFrom_26 : decode cX1_takeFrom 26 = .ok (.getfield 32, 3) := by decide +kernel
theorem dX1_takeFrom_29 : decode cX1_takeFrom 29 = .ok (.putfield 32, 3) := by decide +kernel
theorem dX1_takeFrom_32 : decode cX1_takeFrom 32 = .ok (.iconst 0, 1) := by decide +kernel
theorem dX1_takeFrom_33 : decode cX1_takeFrom 33 = .ok (.istore_n 2, 1) := by decide +kernel
theorem dX1_takeFrom_34 : decode cX1_takeFrom 34 = .ok (.iload_n 2, 1) := by decide +kernel
theorem dX1_takeFrom_35 : decode cX1_takeFrom 35 = .ok (.aload_n 0, 1) := by decide +kernel
theorem dX1_takeFrom_36 : decode cX1_takeFrom 36 = .ok (.getfield 22, 3) := by decide +kernel
theorem dX1_takeFrom_39 : decode cX1_takeFrom 39 = .ok (.if_icmp .ge 22, 3) := by decide +kernel
theorem dX1_takeFrom_42 : decode cX1_takeFrom 42 = .ok (.aload_n 0, 1) := by decide +kernel
theorem dX1_takeFrom_43 : decode cX1_takeFrom 43 = .ok (.iload_n 2, 1) := by decide +kernel
theorem dX1_takeFrom_44 : decode cX1_takeFrom 44 = .ok (.invokevirtual 35, 3) := by decide +kernel
theorem dX1_takeFrom_47 : decode cX1_takeFrom 47 = .ok (.aload_n 1, 1) := by decide +kernel
theorem dX1_takeFrom_48 : decode cX1_takeFrom 48 = .ok (.iload_n 2, 1) := by decide +kernel
theorem dX1_takeFrom_49 : decode cX1_takeFrom 49 = .ok (.invokevirtual 35, 3) := by decide +kernel
theorem dX1_takeFrom_52 : decode cX1_takeFrom 52 = .ok (.invokevirtual 39, 3) := by decide +kernel
theorem dX1_takeFrom_55 : decode cX1_takeFrom 55 = .ok (.iinc 2 1, 3) := by decide +kernel
theorem dX1_takeFrom_58 : decode cX1_takeFrom 58 = .ok (.goto (-24), 3) := by decide +kernel
theorem dX1_takeFrom_61 : decode cX1_takeFrom 61 = .ok (.return_, 1) := by decide +kernel
set_option maxRecDepth 20000 in
theorem ggX1_welcome_X1_at : GoodIn wsX1_welcome wsX1_at := goodIn_r _ [11, 2, 3, 25, 26, 27, 28, 29, 30] (by decide +kernel) (by decide +kernel)
set_option maxRecDepth 20000 in
theorem gX1_welcome_X1_at : GoodIn wsX1_welcome (wsV RX1 35 RX1 yX1_at wsX1_at) := goodIn_app (goodIn_of _ (by decide +kernel)) ggX1_welcome_X1_at
set_option maxRecDepth 20000 in
theorem ggX1_welcome_X2_takeFrom : GoodIn wsX1_welcome wsX2_takeFrom := goodIn_r _ [16, 17, 18, 19, 20, 21, 22, 23, 24, 31, 32, 33, 34, 35, 36, 37, 38] (by decide +kernel) (by decide +kernel)
set_option maxRecDepth 20000 in
theorem gX1_welcome_X2_takeFrom : GoodIn wsX1_welcome (wsV RX1 39 RX2 yX2_takeFrom wsX2_takeFrom) := goodIn_app (goodIn_of _ (by decide +kernel)) ggX1_welcome_X2_takeFrom
theorem dX1_welcome_0 : decode cX1_welcome 0 = .ok (.aload_n 0, 1) := by decide +kernel
theorem dX1_welcome_1 : decode cX1_welcome 1 = .ok (.getfield 22, 3) := by decide +kernel
theorem dX1_welcome_4 : decode cX1_welcome 4 = .ok (.aload_n 0, 1) := by decide +kernel
theorem dX1_welcome_5 : decode cX1_welcome 5 = .ok (.getfield 11, 3) := by decide +kernel
theorem dX1_welcome_8 : decode cX1_welcome 8 = .ok (.arraylength, 1) := by decide +kernel
theorem dX1_welcome_9 : decode cX1_welcome 9 = .ok (.if_icmp .ge 9, 3) := by decide +kernel
theorem dX1_welcome_12 : decode cX1_welcome 12 = .ok (.iload_n 3, 1) := by decide +kernel
theorem dX1_welcome_13 : decode cX1_welcome 13 = .ok (.bipush 60, 2) := by decide +kernel
theorem dX1_welcome_15 : decode cX1_welcome 15 = .ok (.if_icmp .le 5, 3) := by decide +kernel
theorem dX1_welcome_18 : decode cX1_welcome 18 = .ok (.iconst 0, 1) := by decide +kernel
theorem dX1_welcome_19 : decode cX1_welcome 19 = .ok (.ireturn, 1) := by decide +kernel
theorem dX1_welcome_20 : decode cX1_welcome 20 = .ok (.aload_n 0, 1) := by decide +kernel
theorem dX1_welcome_21 : decode cX1_welcome 21 = .ok (.aload_n 0, 1) := by decide +kernel
theorem dX1_welcome_22 : decode cX1_welcome 22 = .ok (.getfield 22, 3) := by decide +kernel
theorem dX1_welcome_25 : decode cX1_welcome 25 = .ok (.invokevirtual 35, 3) := by decide +kernel
theorem dX1_welcome_28 : decode cX1_welcome 28 = .ok (.astore 4, 2) := by decide +kernel
theorem dX1_welcome_30 : decode cX1_welcome 30 = .ok (.aload 4, 2) := by decide +kernel
theorem dX1_welcome_32 : decode cX1_welcome 32 = .ok (.aload_n 0, 1) := by decide +kernel
theorem dX1_welcome_33 : decode cX1_welcome 33 = .ok (.getfield 18, 3) := by decide +kernel
theorem dX1_welcome_36 : decode cX1_welcome 36 = .ok (.invokevirtual 39, 3) := by decide +kernel
theorem dX1_welcome_39 : decode cX1_welcome 39 = .ok (.aload 4, 2) := by decide +kernel
theorem dX1_welcome_41 : decode cX1_welcome 41 = .ok (.iload_n 1, 1) := by decide +kernel
theorem dX1_welcome_42 : decode cX1_welcome 42 = .ok (.putfield 43, 3) := by decide +kernel
theorem dX1_welcome_45 : decode cX1_welcome 45 = .ok (.aload 4, 2) := by decide +kernel
theorem dX1_welcome_47 : decode cX1_welcome 47 = .ok (.iload_n 2, 1) := by decide +kernel
theorem dX1_welcome_48 : decode cX1_welcome 48 = .ok (.putfield 46, 3) := by decide +kernel
theorem dX1_welcome_51 : decode cX1_welcome 51 = .ok (.aload 4, 2) := by decide +kernel
theorem dX1_welcome_53 : decode cX1_welcome 53 = .ok (.iload_n 3, 1) := by decide +kernel
theorem dX1_welcome_54 : decode cX1_welcome 54 = .ok (.putfield 49, 3) := by decide +kernel
theorem dX1_welcome_57 : decode cX1_welcome 57 = .ok (.aload_n 0, 1) := by decide +kernel
theorem dX1_welcome_58 : decode cX1_welcome 58 = .ok (.dup, 1) := by decide +kernel
theorem dX1_welcome_59 : decode cX1_welcome 59 = .ok (.getfield 22, 3) := by decide +kernel
theorem dX1_welcome_62 : decode cX1_welcome 62 = .ok (.iconst 1, 1) := by decide +kernel
theorem dX1_welcome_63 : decode cX1_welcome 63 = .ok (.iadd, 1) := by decide +kernel
theorem dX1_welcome_64 : decode cX1_welcome 64 = .ok (.putfield 22, 3) := by decide +kernel
theorem dX1_welcome_67 : decode cX1_welcome 67 = .ok (.iconst 1, 1) := by decide +kernel
theorem dX1_welcome_68 : decode cX1_welcome 68 = .ok (.ireturn, 1) := by decide +kernel
set_option maxRecDepth 20000 in
theorem ggX1_issue_X1_knows : GoodIn wsX1_issue wsX1_knows := goodIn_r _ [7, 8, 15, 16, 17, 18, 19, 20] (by decide +kernel) (by decide +kernel)
set_option maxRecDepth 20000 in
theorem gX1_issue_X1_knows : GoodIn wsX1_issue (wsV RX1 52 RX1 yX1_knows wsX1_knows) := goodIn_app (goodIn_of _ (by decide +kernel)) ggX1_issue_X1_knows
set_option maxRecDepth 20000 in
theorem ggX1_issue_X1_at : GoodIn wsX1_issue wsX1_at := goodIn_r _ [12, 13, 14, 15, 16, 17, 18, 19, 20] (by decide +kernel) (by decide +kernel)
set_option maxRecDepth 20000 in
theorem gX1_issue_X1_at : GoodIn wsX1_issue (wsV RX1 35 RX1 yX1_at wsX1_at) := goodIn_app (goodIn_of _ (by decide +kernel)) ggX1_issue_X1_at
theorem dX1_issue_0 : decode cX1_issue 0 = .ok (.aload_n 0, 1) := by decide +kernel
theorem dX1_issue_1 : decode cX1_issue 1 = .ok (.iload_n 1, 1) := by decide +kernel
theorem dX1_issue_2 : decode cX1_issue 2 = .ok (.invokevirtual 52, 3) := by decide +kernel
theorem dX1_issue_5 : decode cX1_issue 5 = .ok (.ifCond .eq 26, 3) := by decide +kernel
theorem dX1_issue_8 : decode cX1_issue 8 = .ok (.iload_n 2, 1) := by decide +kernel
theorem dX1_issue_9 : decode cX1_issue 9 = .ok (.aload_n 0, 1) := by decide +kernel
theorem dX1_issue_10 : decode cX1_issue 10 = .ok (.getfield 26, 3) := by decide +kernel
theorem dX1_issue_13 : decode cX1_issue 13 = .ok (.if_icmp .gt 18, 3) := by decide +kernel
theorem dX1_issue_16 : decode cX1_issue 16 = .ok (.aload_n 0, 1) := by decide +kernel
theorem dX1_issue_17 : decode cX1_issue 17 = .ok (.iload_n 1, 1) := by decide +kernel
theorem dX1_issue_18 : decode cX1_issue 18 = .ok (.invokevirtual 35, 3) := by decide +kernel
theorem dX1_issue_21 : decode cX1_issue 21 = .ok (.getfield 56, 3) := by decide +kernel
theorem dX1_issue_24 : decode cX1_issue 24 = .ok (.iload_n 2, 1) := by decide +kernel
theorem dX1_issue_25 : decode cX1_issue 25 = .ok (.iadd, 1) := by decide +kernel
theorem dX1_issue_26 : decode cX1_issue 26 = .ok (.bipush 99, 2) := by decide +kernel
theorem dX1_issue_28 : decode cX1_issue 28 = .ok (.if_icmp .le 5, 3) := by decide +kernel
theorem dX1_issue_31 : decode cX1_issue 31 = .ok (.iconst 0, 1) := by decide +kernel
theorem dX1_issue_32 : decode cX1_issue 32 = .ok (.ireturn, 1) := by decide +kernel
theorem dX1_issue_33 : decode cX1_issue 33 = .ok (.aload_n 0, 1) := by decide +kernel
theorem dX1_issue_34 : decode cX1_issue 34 = .ok (.iload_n 1, 1) := by decide +kernel
theorem dX1_issue_35 : decode cX1_issue 35 = .ok (.invokevirtual 35, 3) := by decide +kernel
theorem dX1_issue_38 : decode cX1_issue 38 = .ok (.dup, 1) := by decide +kernel
theorem dX1_issue_39 : decode cX1_issue 39 = .ok (.getfield 56, 3) := by decide +kernel
theorem dX1_issue_42 : decode cX1_issue 42 = .ok (.iload_n 2, 1) := by decide +kernel
theorem dX1_issue_43 : decode cX1_issue 43 = .ok (.iadd, 1) := by decide +kernel
theorem dX1_issue_44 : decode cX1_issue 44 = .ok (.putfield 56, 3) := by decide +kernel
theorem dX1_issue_47 : decode cX1_issue 47 = .ok (.aload_n 0, 1) := by decide +kernel
theorem dX1_issue_48 : decode cX1_issue 48 = .ok (.dup, 1) := by decide +kernel
theorem dX1_issue_49 : decode cX1_issue 49 = .ok (.getfield 26, 3) := by decide +kernel
theorem dX1_issue_52 : decode cX1_issue 52 = .ok (.iload_n 2, 1) := by decide +kernel
theorem dX1_issue_53 : decode cX1_issue 53 = .ok (.isub, 1) := by decide +kernel
theorem dX1_issue_54 : decode cX1_issue 54 = .ok (.putfield 26, 3) := by decide +kernel
theorem dX1_issue_57 : decode cX1_issue 57 = .ok (.iconst 1, 1) := by decide +kernel
theorem dX1_issue_58 : decode cX1_issue 58 = .ok (.ireturn, 1) := by decide +kernel
set_option maxRecDepth 20000 in
theorem ggX1_handIn_X1_knows : GoodIn wsX1_handIn wsX1_knows := goodIn_r _ [11, 12, 24, 25, 26, 27, 28, 29] (by decide +kernel) (by decide +kernel)
set_option maxRecDepth 20000 in
theorem gX1_handIn_X1_knows : GoodIn wsX1_handIn (wsV RX1 52 RX1 yX1_knows wsX1_knows) := goodIn_app (goodIn_of _ (by decide +kernel)) ggX1_handIn_X1_knows
set_option maxRecDepth 20000 in
theorem ggX1_handIn_X1_at : GoodIn wsX1_handIn wsX1_at := goodIn_r _ [16, 17, 18, 24, 25, 26, 27, 28, 29] (by decide +kernel) (by decide +kernel)
set_option maxRecDepth 20000 in
theorem gX1_handIn_X1_at : GoodIn wsX1_handIn (wsV RX1 35 RX1 yX1_at wsX1_at) := goodIn_app (goodIn_of _ (by decide +kernel)) ggX1_handIn_X1_at
set_option maxRecDepth 20000 in
theorem ggX1_handIn_X1_wear : GoodIn wsX1_handIn wsX1_wear := goodIn_r _ [22, 23, 3, 4, 5, 6, 24, 25, 26, 27, 28, 29] (by decide +kernel) (by decide +kernel)
set_option maxRecDepth 20000 in
theorem gX1_handIn_X1_wear : GoodIn wsX1_handIn (wsV RX1 65 RX1 yX1_wear wsX1_wear) := goodIn_app (goodIn_of _ (by decide +kernel)) ggX1_handIn_X1_wear
theorem dX1_handIn_0 : decode cX1_handIn 0 = .ok (.aload_n 0, 1) := by decide +kernel
theorem dX1_handIn_1 : decode cX1_handIn 1 = .ok (.iload_n 1, 1) := by decide +kernel
theorem dX1_handIn_2 : decode cX1_handIn 2 = .ok (.invokevirtual 52, 3) := by decide +kernel
theorem dX1_handIn_5 : decode cX1_handIn 5 = .ok (.ifCond .ne 5, 3) := by decide +kernel
theorem dX1_handIn_8 : decode cX1_handIn 8 = .ok (.iconst 0, 1) := by decide +kernel
theorem dX1_handIn_9 : decode cX1_handIn 9 = .ok (.ireturn, 1) := by decide +kernel
theorem dX1_handIn_10 : decode cX1_handIn 10 = .ok (.aload_n 0, 1) := by decide +kernel
theorem dX1_handIn_11 : decode cX1_handIn 11 = .ok (.getfield 26, 3) := by decide +kernel
theorem dX1_handIn_14 : decode cX1_handIn 14 = .ok (.aload_n 0, 1) := by decide +kernel
theorem dX1_handIn_15 : decode cX1_handIn 15 = .ok (.iload_n 1, 1) := by decide +kernel
theorem dX1_handIn_16 : decode cX1_handIn 16 = .ok (.invokevirtual 35, 3) := by decide +kernel
theorem dX1_handIn_19 : decode cX1_handIn 19 = .ok (.getfield 56, 3) := by decide +kernel
theorem dX1_handIn_22 : decode cX1_handIn 22 = .ok (.iadd, 1) := by decide +kernel
theorem dX1_handIn_23 : decode cX1_handIn 23 = .ok (.istore_n 2, 1) := by decide +kernel
theorem dX1_handIn_24 : decode cX1_handIn 24 = .ok (.aload_n 0, 1) := by decide +kernel
theorem dX1_handIn_25 : decode cX1_handIn 25 = .ok (.iload_n 1, 1) := by decide +kernel
theorem dX1_handIn_26 : decode cX1_handIn 26 = .ok (.invokevirtual 35, 3) := by decide +kernel
theorem dX1_handIn_29 : decode cX1_handIn 29 = .ok (.iconst 0, 1) := by decide +kernel
theorem dX1_handIn_30 : decode cX1_handIn 30 = .ok (.putfield 56, 3) := by decide +kernel
theorem dX1_handIn_33 : decode cX1_handIn 33 = .ok (.aload_n 0, 1) := by decide +kernel
theorem dX1_handIn_34 : decode cX1_handIn 34 = .ok (.iload_n 2, 1) := by decide +kernel
theorem dX1_handIn_35 : decode cX1_handIn 35 = .ok (.sipush 999, 3) := by decide +kernel
theorem dX1_handIn_38 : decode cX1_handIn 38 = .ok (.invokestatic 59, 3) := by decide +kernel
theorem dX1_handIn_41 : decode cX1_handIn 41 = .ok (.putfield 26, 3) := by decide +kernel
theorem dX1_handIn_44 : decode cX1_handIn 44 = .ok (.aload_n 0, 1) := by decide +kernel
theorem dX1_handIn_45 : decode cX1_handIn 45 = .ok (.iload_n 2, 1) := by decide +kernel
theorem dX1_handIn_46 : decode cX1_handIn 46 = .ok (.aload_n 0, 1) := by decide +kernel
theorem dX1_handIn_47 : decode cX1_handIn 47 = .ok (.getfield 26, 3) := by decide +kernel
theorem dX1_handIn_50 : decode cX1_handIn 50 = .ok (.isub, 1) := by decide +kernel
theorem dX1_handIn_51 : decode cX1_handIn 51 = .ok (.invokevirtual 65, 3) := by decide +kernel
theorem dX1_handIn_54 : decode cX1_handIn 54 = .ok (.iconst 1, 1) := by decide +kernel
theorem dX1_handIn_55 : decode cX1_handIn 55 = .ok (.ireturn, 1) := by decide +kernel
set_option maxRecDepth 20000 in
theorem ggX1_setDue_X1_knows : GoodIn wsX1_setDue wsX1_knows := goodIn_r _ [6, 7, 22, 23, 24, 25, 26, 27] (by decide +kernel) (by decide +kernel)
set_option maxRecDepth 20000 in
theorem gX1_setDue_X1_knows : GoodIn wsX1_setDue (wsV RX1 52 RX1 yX1_knows wsX1_knows) := goodIn_app (goodIn_of _ (by decide +kernel)) ggX1_setDue_X1_knows
set_option maxRecDepth 20000 in
theorem ggX1_setDue_X1_at : GoodIn wsX1_setDue wsX1_at := goodIn_r _ [11, 12, 13, 22, 23, 24, 25, 26, 27] (by decide +kernel) (by decide +kernel)
set_option maxRecDepth 20000 in
theorem gX1_setDue_X1_at : GoodIn wsX1_setDue (wsV RX1 35 RX1 yX1_at wsX1_at) := goodIn_app (goodIn_of _ (by decide +kernel)) ggX1_setDue_X1_at
theorem dX1_setDue_0 : decode cX1_setDue 0 = .ok (.aload_n 0, 1) := by decide +kernel
theorem dX1_setDue_1 : decode cX1_setDue 1 = .ok (.iload_n 1, 1) := by decide +kernel
theorem dX1_setDue_2 : decode cX1_setDue 2 = .ok (.invokevirtual 52, 3) := by decide +kernel
theorem dX1_setDue_5 : decode cX1_setDue 5 = .ok (.ifCond .eq 9, 3) := by decide +kernel
theorem dX1_setDue_8 : decode cX1_setDue 8 = .ok (.iload_n 2, 1) := by decide +kernel
theorem dX1_setDue_9 : decode cX1_setDue 9 = .ok (.bipush 60, 2) := by decide +kernel
theorem dX1_setDue_11 : decode cX1_setDue 11 = .ok (.if_icmp .le 5, 3) := by decide +kernel
theorem dX1_setDue_14 : decode cX1_setDue 14 = .ok (.iconst 0, 1) := by decide +kernel
theorem dX1_setDue_15 : decode cX1_setDue 15 = .ok (.ireturn, 1) := by decide +kernel
theorem dX1_setDue_16 : decode cX1_setDue 16 = .ok (.aload_n 0, 1) := by decide +kernel
theorem dX1_setDue_17 : decode cX1_setDue 17 = .ok (.iload_n 1, 1) := by decide +kernel
theorem dX1_setDue_18 : decode cX1_setDue 18 = .ok (.invokevirtual 35, 3) := by decide +kernel
theorem dX1_setDue_21 : decode cX1_setDue 21 = .ok (.iload_n 2, 1) := by decide +kernel
theorem dX1_setDue_22 : decode cX1_setDue 22 = .ok (.putfield 49, 3) := by decide +kernel
theorem dX1_setDue_25 : decode cX1_setDue 25 = .ok (.iconst 1, 1) := by decide +kernel
theorem dX1_setDue_26 : decode cX1_setDue 26 = .ok (.ireturn, 1) := by decide +kernel
theorem dX1_fill_0 : decode cX1_fill 0 = .ok (.aload_n 0, 1) := by decide +kernel
theorem dX1_fill_1 : decode cX1_fill 1 = .ok (.getfield 26, 3) := by decide +kernel
theorem dX1_fill_4 : decode cX1_fill 4 = .ok (.iload_n 1, 1) := by decide +kernel
theorem dX1_fill_5 : decode cX1_fill 5 = .ok (.iadd, 1) := by decide +kernel
theorem dX1_fill_6 : decode cX1_fill 6 = .ok (.sipush 999, 3) := by decide +kernel
theorem dX1_fill_9 : decode cX1_fill 9 = .ok (.if_icmp .le 5, 3) := by decide +kernel
theorem dX1_fill_12 : decode cX1_fill 12 = .ok (.iconst 0, 1) := by decide +kernel
theorem dX1_fill_13 : decode cX1_fill 13 = .ok (.ireturn, 1) := by decide +kernel
theorem dX1_fill_14 : decode cX1_fill 14 = .ok (.aload_n 0, 1) := by decide +kernel
theorem dX1_fill_15 : decode cX1_fill 15 = .ok (.dup, 1) := by decide +kernel
theorem dX1_fill_16 : decode cX1_fill 16 = .ok (.getfield 26, 3) := by decide +kernel
theorem dX1_fill_19 : decode cX1_fill 19 = .ok (.iload_n 1, 1) := by decide +kernel
theorem dX1_fill_20 : decode cX1_fill 20 = .ok (.iadd, 1) := by decide +kernel
theorem dX1_fill_21 : decode cX1_fill 21 = .ok (.putfield 26, 3) := by decide +kernel
theorem dX1_fill_24 : decode cX1_fill 24 = .ok (.iconst 1, 1) := by decide +kernel
theorem dX1_fill_25 : decode cX1_fill 25 = .ok (.ireturn, 1) := by decide +kernel
set_option maxRecDepth 20000 in
theorem ggX1_daysCome_X1_daysGoBy : GoodIn wsX1_daysCome wsX1_daysGoBy := goodIn_r _ [6, 1, 7, 8, 9, 10, 5, 11, 12, 13, 14, 15, 16, 17, 18, 19, 20, 21, 22, 23, 24, 25, 26, 27, 28, 29, 30, 31, 32, 33, 34, 35, 36, 37, 38, 39, 40, 41, 42, 43, 44, 45, 46, 47, 48, 49, 50, 51, 52, 53, 54, 55, 56, 57, 58, 59, 60] (by decide +kernel) (by decide +kernel)
set_option maxRecDepth 20000 in
theorem gX1_daysCome_X1_daysGoBy : GoodIn wsX1_daysCome (wsV RX1 69 RX1 yX1_daysGoBy wsX1_daysGoBy) := goodIn_app (goodIn_of _ (by decide +kernel)) ggX1_daysCome_X1_daysGoBy
theorem dX1_daysCome_0 : decode cX1_daysCome 0 = .ok (.iload_n 1, 1) := by decide +kernel
theorem dX1_daysCome_1 : decode cX1_daysCome 1 = .ok (.iconst 1, 1) := by decide +kernel
theorem dX1_daysCome_2 : decode cX1_daysCome 2 = .ok (.if_icmp .lt 21, 3) := by decide +kernel
theorem dX1_daysCome_5 : decode cX1_daysCome 5 = .ok (.iload_n 1, 1) := by decide +kernel
theorem dX1_daysCome_6 : decode cX1_daysCome 6 = .ok (.bipush 60, 2) := by decide +kernel
theorem dX1_daysCome_8 : decode cX1_daysCome 8 = .ok (.if_icmp .gt 15, 3) := by decide +kernel
theorem dX1_daysCome_11 : decode cX1_daysCome 11 = .ok (.aload_n 0, 1) := by decide +kernel
theorem dX1_daysCome_12 : decode cX1_daysCome 12 = .ok (.getfield 32, 3) := by decide +kernel
theorem dX1_daysCome_15 : decode cX1_daysCome 15 = .ok (.iload_n 1, 1) := by decide +kernel
theorem dX1_daysCome_16 : decode cX1_daysCome 16 = .ok (.iadd, 1) := by decide +kernel
theorem dX1_daysCome_17 : decode cX1_daysCome 17 = .ok (.sipush 999, 3) := by decide +kernel
theorem dX1_daysCome_20 : decode cX1_daysCome 20 = .ok (.if_icmp .le 5, 3) := by decide +kernel
theorem dX1_daysCome_23 : decode cX1_daysCome 23 = .ok (.iconst 0, 1) := by decide +kernel
theorem dX1_daysCome_24 : decode cX1_daysCome 24 = .ok (.ireturn, 1) := by decide +kernel
theorem dX1_daysCome_25 : decode cX1_daysCome 25 = .ok (.aload_n 0, 1) := by decide +kernel
theorem dX1_daysCome_26 : decode cX1_daysCome 26 = .ok (.iload_n 1, 1) := by decide +kernel
theorem dX1_daysCome_27 : decode cX1_daysCome 27 = .ok (.invokevirtual 69, 3) := by decide +kernel
theorem dX1_daysCome_30 : decode cX1_daysCome 30 = .ok (.iconst 1, 1) := by decide +kernel
theorem dX1_daysCome_31 : decode cX1_daysCome 31 = .ok (.ireturn, 1) := by decide +kernel
set_option maxRecDepth 20000 in
theorem ggX1_daysGoBy_X1_at : GoodIn wsX1_daysGoBy wsX1_at := goodIn_r _ [7, 8, 9, 43, 44, 45, 46, 47, 48] (by decide +kernel) (by decide +kernel)
set_option maxRecDepth 20000 in
theorem gX1_daysGoBy_X1_at : GoodIn wsX1_daysGoBy (wsV RX1 35 RX1 yX1_at wsX1_at) := goodIn_app (goodIn_of _ (by decide +kernel)) ggX1_daysGoBy_X1_at
set_option maxRecDepth 20000 in
theorem ggX1_daysGoBy_X2_oneDay : GoodIn wsX1_daysGoBy wsX2_oneDay := goodIn_r _ [14, 15, 16, 17, 18, 19, 20, 21, 22, 23, 24, 25, 26, 27, 28, 29, 30, 31, 32, 33, 34, 35, 36, 49, 50, 51, 52, 53, 54, 55, 56] (by decide +kernel) (by decide +kernel)
set_option maxRecDepth 20000 in
theorem gX1_daysGoBy_X2_oneDay : GoodIn wsX1_daysGoBy (wsV RX1 72 RX2 yX2_oneDay wsX2_oneDay) := goodIn_app (goodIn_of _ (by decide +kernel)) ggX1_daysGoBy_X2_oneDay
set_option maxRecDepth 20000 in
theorem ggX1_daysGoBy_X1_wear : GoodIn wsX1_daysGoBy wsX1_wear := goodIn_r _ [40, 41, 42, 22, 23, 24, 43, 44, 45, 46, 47, 48] (by decide +kernel) (by decide +kernel)
set_option maxRecDepth 20000 in
theorem gX1_daysGoBy_X1_wear : GoodIn wsX1_daysGoBy (wsV RX1 65 RX1 yX1_wear wsX1_wear) := goodIn_app (goodIn_of _ (by decide +kernel)) ggX1_daysGoBy_X1_wear
theorem dX1_daysGoBy_0 : decode cX1_daysGoBy 0 = .ok (.iconst 0, 1) := by decide +kernel
theorem dX1_daysGoBy_1 : decode cX1_daysGoBy 1 = .ok (.istore_n 2, 1) := by decide +kernel
theorem dX1_daysGoBy_2 : decode cX1_daysGoBy 2 = .ok (.iload_n 2, 1) := by decide +kernel
theorem dX1_daysGoBy_3 : decode cX1_daysGoBy 3 = .ok (.iload_n 1, 1) := by decide +kernel
theorem dX1_daysGoBy_4 : decode cX1_daysGoBy 4 = .ok (.if_icmp .ge 47, 3) := by decide +kernel
theorem dX1_daysGoBy_7 : decode cX1_daysGoBy 7 = .ok (.aload_n 0, 1) := by decide +kernel
theorem dX1_daysGoBy_8 : decode cX1_daysGoBy 8 = .ok (.dup, 1) := by decide +kernel
theorem dX1_daysGoBy_9 : decode cX1_daysGoBy 9 = .ok (.getfield 32, 3) := by decide +kernel
theorem dX1_daysGoBy_12 : decode cX1_daysGoBy 12 = .ok (.iconst 1, 1) := by decide +kernel
theorem dX1_daysGoBy_13 : decode cX1_daysGoBy 13 = .ok (.iadd, 1) := by decide +kernel
theorem dX1_daysGoBy_14 : decode cX1_daysGoBy 14 = .ok (.putfield 32, 3) := by decide +kernel
theorem dX1_daysGoBy_17 : decode cX1_daysGoBy 17 = .ok (.iconst 0, 1) := by decide +kernel
theorem dX1_daysGoBy_18 : decode cX1_daysGoBy 18 = .ok (.istore_n 3, 1) := by decide +kernel
theorem dX1_daysGoBy_19 : decode cX1_daysGoBy 19 = .ok (.iload_n 3, 1) := by decide +kernel
theorem dX1_daysGoBy_20 : decode cX1_daysGoBy 20 = .ok (.aload_n 0, 1) := by decide +kernel
theorem dX1_daysGoBy_21 : decode cX1_daysGoBy 21 = .ok (.getfield 22, 3) := by decide +kernel
theorem dX1_daysGoBy_24 : decode cX1_daysGoBy 24 = .ok (.if_icmp .ge 21, 3) := by decide +kernel
theorem dX1_daysGoBy_27 : decode cX1_daysGoBy 27 = .ok (.aload_n 0, 1) := by decide +kernel
theorem dX1_daysGoBy_28 : decode cX1_daysGoBy 28 = .ok (.aload_n 0, 1) := by decide +kernel
theorem dX1_daysGoBy_29 : decode cX1_daysGoBy 29 = .ok (.iload_n 3, 1) := by decide +kernel
theorem dX1_daysGoBy_30 : decode cX1_daysGoBy 30 = .ok (.invokevirtual 35, 3) := by decide +kernel
theorem dX1_daysGoBy_33 : decode cX1_daysGoBy 33 = .ok (.invokevirtual 72, 3) := by decide +kernel
theorem dX1_daysGoBy_36 : decode cX1_daysGoBy 36 = .ok (.invokevirtual 65, 3) := by decide +kernel
theorem dX1_daysGoBy_39 : decode cX1_daysGoBy 39 = .ok (.iinc 3 1, 3) := by decide +kernel
theorem dX1_daysGoBy_42 : decode cX1_daysGoBy 42 = .ok (.goto (-23), 3) := by decide +kernel
theorem dX1_daysGoBy_45 : decode cX1_daysGoBy 45 = .ok (.iinc 2 1, 3) := by decide +kernel
theorem dX1_daysGoBy_48 : decode cX1_daysGoBy 48 = .ok (.goto (-46), 3) := by decide +kernel
theorem dX1_daysGoBy_51 : decode cX1_daysGoBy 51 = .ok (.return_, 1) := by decide +kernel
theorem dX1_wear_0 : decode cX1_wear 0 = .ok (.aload_n 0, 1) := by decide +kernel
theorem dX1_wear_1 : decode cX1_wear 1 = .ok (.aload_n 0, 1) := by decide +kernel
theorem dX1_wear_2 : decode cX1_wear 2 = .ok (.getfield 29, 3) := by decide +kernel
theorem dX1_wear_5 : decode cX1_wear 5 = .ok (.iload_n 1, 1) := by decide +kernel
theorem dX1_wear_6 : decode cX1_wear 6 = .ok (.iadd, 1) := by decide +kernel
theorem dX1_wear_7 : decode cX1_wear 7 = .ok (.sipush 9999, 3) := by decide +kernel
theorem dX1_wear_10 : decode cX1_wear 10 = .ok (.invokestatic 59, 3) := by decide +kernel
theorem dX1_wear_13 : decode cX1_wear 13 = .ok (.putfield 29, 3) := by decide +kernel
theorem dX1_wear_16 : decode cX1_wear 16 = .ok (.return_, 1) := by decide +kernel
set_option maxRecDepth 20000 in
theorem ggX1_issueAhead_X1_at : GoodIn wsX1_issueAhead wsX1_at := goodIn_r _ [7, 8, 9, 41, 42, 43, 44, 45, 46] (by decide +kernel) (by decide +kernel)
set_option maxRecDepth 20000 in
theorem gX1_issueAhead_X1_at : GoodIn wsX1_issueAhead (wsV RX1 35 RX1 yX1_at wsX1_at) := goodIn_app (goodIn_of _ (by decide +kernel)) ggX1_issueAhead_X1_at
set_option maxRecDepth 20000 in
theorem ggX1_issueAhead_X2_lacking : GoodIn wsX1_issueAhead wsX2_lacking := goodIn_r _ [14, 15, 16, 17, 18, 19, 20, 21, 22, 23, 13, 24, 25, 26, 27, 28, 29, 30, 47, 48, 49, 50, 51, 52, 53, 54] (by decide +kernel) (by decide +kernel)
set_option maxRecDepth 20000 in
theorem gX1_issueAhead_X2_lacking : GoodIn wsX1_issueAhead (wsV RX1 76 RX2 yX2_lacking wsX2_lacking) := goodIn_app (goodIn_of _ (by decide +kernel)) ggX1_issueAhead_X2_lacking
set_option maxRecDepth 20000 in
theorem ggX1_issueAhead_X1_issue : GoodIn wsX1_issueAhead wsX1_issue := goodIn_r _ [34, 35, 36, 37, 38, 39, 6, 40, 1, 3, 4, 5, 7, 8, 9, 41, 42, 43, 44, 45, 46, 47, 48, 49, 50, 51, 52, 53, 54] (by decide +kernel) (by decide +kernel)
set_option maxRecDepth 20000 in
theorem gX1_issueAhead_X1_issue : GoodIn wsX1_issueAhead (wsV RX1 79 RX1 yX1_issue wsX1_issue) := goodIn_app (goodIn_of _ (by decide +kernel)) ggX1_issueAhead_X1_issue
theorem dX1_issueAhead_0 : decode cX1_issueAhead 0 = .ok (.iconst 0, 1) := by decide +kernel
theorem dX1_issueAhead_1 : decode cX1_issueAhead 1 = .ok (.istore_n 1, 1) := by decide +kernel
theorem dX1_issueAhead_2 : decode cX1_issueAhead 2 = .ok (.iload_n 1, 1) := by decide +kernel
theorem dX1_issueAhead_3 : decode cX1_issueAhead 3 = .ok (.aload_n 0, 1) := by decide +kernel
theorem dX1_issueAhead_4 : decode cX1_issueAhead 4 = .ok (.getfield 22, 3) := by decide +kernel
theorem dX1_issueAhead_7 : decode cX1_issueAhead 7 = .ok (.if_icmp .ge 37, 3) := by decide +kernel
theorem dX1_issueAhead_10 : decode cX1_issueAhead 10 = .ok (.aload_n 0, 1) := by decide +kernel
theorem dX1_issueAhead_11 : decode cX1_issueAhead 11 = .ok (.iload_n 1, 1) := by decide +kernel
theorem dX1_issueAhead_12 : decode cX1_issueAhead 12 = .ok (.invokevirtual 35, 3) := by decide +kernel
theorem dX1_issueAhead_15 : decode cX1_issueAhead 15 = .ok (.astore_n 2, 1) := by decide +kernel
theorem dX1_issueAhead_16 : decode cX1_issueAhead 16 = .ok (.aload_n 2, 1) := by decide +kernel
theorem dX1_issueAhead_17 : decode cX1_issueAhead 17 = .ok (.getfield 49, 3) := by decide +kernel
theorem dX1_issueAhead_20 : decode cX1_issueAhead 20 = .ok (.iconst 1, 1) := by decide +kernel
theorem dX1_issueAhead_21 : decode cX1_issueAhead 21 = .ok (.if_icmp .ne 17, 3) := by decide +kernel
theorem dX1_issueAhead_24 : decode cX1_issueAhead 24 = .ok (.aload_n 0, 1) := by decide +kernel
theorem dX1_issueAhead_25 : decode cX1_issueAhead 25 = .ok (.iload_n 1, 1) := by decide +kernel
theorem dX1_issueAhead_26 : decode cX1_issueAhead 26 = .ok (.aload_n 2, 1) := by decide +kernel
theorem dX1_issueAhead_27 : decode cX1_issueAhead 27 = .ok (.invokevirtual 76, 3) := by decide +kernel
theorem dX1_issueAhead_30 : decode cX1_issueAhead 30 = .ok (.invokevirtual 79, 3) := by decide +kernel
theorem dX1_issueAhead_33 : decode cX1_issueAhead 33 = .ok (.ifCond .ne 5, 3) := by decide +kernel
theorem dX1_issueAhead_36 : decode cX1_issueAhead 36 = .ok (.iload_n 1, 1) := by decide +kernel
theorem dX1_issueAhead_37 : decode cX1_issueAhead 37 = .ok (.ireturn, 1) := by decide +kernel
theorem dX1_issueAhead_38 : decode cX1_issueAhead 38 = .ok (.iinc 1 1, 3) := by decide +kernel
theorem dX1_issueAhead_41 : decode cX1_issueAhead 41 = .ok (.goto (-39), 3) := by decide +kernel
theorem dX1_issueAhead_44 : decode cX1_issueAhead 44 = .ok (.bipush (-9), 2) := by decide +kernel
theorem dX1_issueAhead_46 : decode cX1_issueAhead 46 = .ok (.ireturn, 1) := by decide +kernel
set_option maxRecDepth 20000 in
theorem ggX1_firstMissing_X1_at : GoodIn wsX1_firstMissing wsX1_at := goodIn_r _ [7, 8, 9, 10, 11, 12, 13, 14, 15] (by decide +kernel) (by decide +kernel)
set_option maxRecDepth 20000 in
theorem gX1_firstMissing_X1_at : GoodIn wsX1_firstMissing (wsV RX1 35 RX1 yX1_at wsX1_at) := goodIn_app (goodIn_of _ (by decide +kernel)) ggX1_firstMissing_X1_at
theorem dX1_firstMissing_0 : decode cX1_firstMissing 0 = .ok (.iconst 0, 1) := by decide +kernel
theorem dX1_firstMissing_1 : decode cX1_firstMissing 1 = .ok (.istore_n 1, 1) := by decide +kernel
theorem dX1_firstMissing_2 : decode cX1_firstMissing 2 = .ok (.iload_n 1, 1) := by decide +kernel
theorem dX1_firstMissing_3 : decode cX1_firstMissing 3 = .ok (.aload_n 0, 1) := by decide +kernel
theorem dX1_firstMissing_4 : decode cX1_firstMissing 4 = .ok (.getfield 22, 3) := by decide +kernel
theorem dX1_firstMissing_7 : decode cX1_firstMissing 7 = .ok (.if_icmp .ge 22, 3) := by decide +kernel
theorem dX1_firstMissing_10 : decode cX1_firstMissing 10 = .ok (.aload_n 0, 1) := by decide +kernel
theorem dX1_firstMissing_11 : decode cX1_firstMissing 11 = .ok (.iload_n 1, 1) := by decide +kernel
theorem dX1_firstMissing_12 : decode cX1_firstMissing 12 = .ok (.invokevirtual 35, 3) := by decide +kernel
theorem dX1_firstMissing_15 : decode cX1_firstMissing 15 = .ok (.getfield 83, 3) := by decide +kernel
theorem dX1_firstMissing_18 : decode cX1_firstMissing 18 = .ok (.ifCond .le 5, 3) := by decide +kernel
theorem dX1_firstMissing_21 : decode cX1_firstMissing 21 = .ok (.iload_n 1, 1) := by decide +kernel
theorem dX1_firstMissing_22 : decode cX1_firstMissing 22 = .ok (.ireturn, 1) := by decide +kernel
theorem dX1_firstMissing_23 : decode cX1_firstMissing 23 = .ok (.iinc 1 1, 3) := by decide +kernel
theorem dX1_firstMissing_26 : decode cX1_firstMissing 26 = .ok (.goto (-24), 3) := by decide +kernel
theorem dX1_firstMissing_29 : decode cX1_firstMissing 29 = .ok (.bipush (-9), 2) := by decide +kernel
theorem dX1_firstMissing_31 : decode cX1_firstMissing 31 = .ok (.ireturn, 1) := by decide +kernel
set_option maxRecDepth 20000 in
theorem ggX1_lackAll_X1_at : GoodIn wsX1_lackAll wsX1_at := goodIn_r _ [6, 7, 8, 30, 31, 32, 33, 34, 35] (by decide +kernel) (by decide +kernel)
set_option maxRecDepth 20000 in
theorem gX1_lackAll_X1_at : GoodIn wsX1_lackAll (wsV RX1 35 RX1 yX1_at wsX1_at) := goodIn_app (goodIn_of _ (by decide +kernel)) ggX1_lackAll_X1_at
set_option maxRecDepth 20000 in
theorem ggX1_lackAll_X2_lacking : GoodIn wsX1_lackAll wsX2_lacking := goodIn_r _ [13, 14, 15, 16, 17, 18, 19, 20, 21, 22, 12, 23, 24, 25, 26, 27, 28, 29, 36, 37, 38, 39, 40, 41, 42, 43] (by decide +kernel) (by decide +kernel)
set_option maxRecDepth 20000 in
theorem gX1_lackAll_X2_lacking : GoodIn wsX1_lackAll (wsV RX1 76 RX2 yX2_lacking wsX2_lacking) := goodIn_app (goodIn_of _ (by decide +kernel)) ggX1_lackAll_X2_lacking
theorem dX1_lackAll_0 : decode cX1_lackAll 0 = .ok (.iconst 0, 1) := by decide +kernel
theorem dX1_lackAll_1 : decode cX1_lackAll 1 = .ok (.istore_n 2, 1) := by decide +kernel
theorem dX1_lackAll_2 : decode cX1_lackAll 2 = .ok (.iload_n 2, 1) := by decide +kernel
theorem dX1_lackAll_3 : decode cX1_lackAll 3 = .ok (.aload_n 0, 1) := by decide +kernel
theorem dX1_lackAll_4 : decode cX1_lackAll 4 = .ok (.getfield 22, 3) := by decide +kernel
theorem dX1_lackAll_7 : decode cX1_lackAll 7 = .ok (.if_icmp .ge 31, 3) := by decide +kernel
theorem dX1_lackAll_10 : decode cX1_lackAll 10 = .ok (.iload_n 1, 1) := by decide +kernel
theorem dX1_lackAll_11 : decode cX1_lackAll 11 = .ok (.iload_n 2, 1) := by decide +kernel
theorem dX1_lackAll_12 : decode cX1_lackAll 12 = .ok (.ishr, 1) := by decide +kernel
theorem dX1_lackAll_13 : decode cX1_lackAll 13 = .ok (.iconst 1, 1) := by decide +kernel
theorem dX1_lackAll_14 : decode cX1_lackAll 14 = .ok (.iand, 1) := by decide +kernel
theorem dX1_lackAll_15 : decode cX1_lackAll 15 = .ok (.iconst 1, 1) := by decide +kernel
theorem dX1_lackAll_16 : decode cX1_lackAll 16 = .ok (.if_icmp .ne 16, 3) := by decide +kernel
theorem dX1_lackAll_19 : decode cX1_lackAll 19 = .ok (.aload_n 0, 1) := by decide +kernel
theorem dX1_lackAll_20 : decode cX1_lackAll 20 = .ok (.iload_n 2, 1) := by decide +kernel
theorem dX1_lackAll_21 : decode cX1_lackAll 21 = .ok (.invokevirtual 35, 3) := by decide +kernel
theorem dX1_lackAll_24 : decode cX1_lackAll 24 = .ok (.invokevirtual 76, 3) := by decide +kernel
theorem dX1_lackAll_27 : decode cX1_lackAll 27 = .ok (.ifCond .ne 5, 3) := by decide +kernel
theorem dX1_lackAll_30 : decode cX1_lackAll 30 = .ok (.iconst 0, 1) := by decide +kernel
theorem dX1_lackAll_31 : decode cX1_lackAll 31 = .ok (.ireturn, 1) := by decide +kernel
theorem dX1_lackAll_32 : decode cX1_lackAll 32 = .ok (.iinc 2 1, 3) := by decide +kernel
theorem dX1_lackAll_35 : decode cX1_lackAll 35 = .ok (.goto (-33), 3) := by decide +kernel
theorem dX1_lackAll_38 : decode cX1_lackAll 38 = .ok (.iconst 1, 1) := by decide +kernel
theorem dX1_lackAll_39 : decode cX1_lackAll 39 = .ok (.ireturn, 1) := by decide +kernel
set_option maxRecDepth 20000 in
theorem ggX1_lackOf_X1_at : GoodIn wsX1_lackOf wsX1_at := goodIn_r _ [6, 7, 8, 30, 31, 32, 33, 34, 35] (by decide +kernel) (by decide +kernel)
set_option maxRecDepth 20000 in
theorem gX1_lackOf_X1_at : GoodIn wsX1_lackOf (wsV RX1 35 RX1 yX1_at wsX1_at) := goodIn_app (goodIn_of _ (by decide +kernel)) ggX1_lackOf_X1_at
set_option maxRecDepth 20000 in
theorem ggX1_lackOf_X2_lacking : GoodIn wsX1_lackOf wsX2_lacking := goodIn_r _ [13, 14, 15, 16, 17, 18, 19, 20, 21, 22, 12, 23, 24, 25, 26, 27, 28, 29, 36, 37, 38, 39, 40, 41, 42, 43] (by decide +kernel) (by decide +kernel)
set_option maxRecDepth 20000 in
theorem gX1_lackOf_X2_lacking : GoodIn wsX1_lackOf (wsV RX1 76 RX2 yX2_lacking wsX2_lacking) := goodIn_app (goodIn_of _ (by decide +kernel)) ggX1_lackOf_X2_lacking
theorem dX1_lackOf_0 : decode cX1_lackOf 0 = .ok (.iconst 0, 1) := by decide +kernel
theorem dX1_lackOf_1 : decode cX1_lackOf 1 = .ok (.istore_n 2, 1) := by decide +kernel
theorem dX1_lackOf_2 : decode cX1_lackOf 2 = .ok (.iconst 0, 1) := by decide +kernel
theorem dX1_lackOf_3 : decode cX1_lackOf 3 = .ok (.istore_n 3, 1) := by decide +kernel
theorem dX1_lackOf_4 : decode cX1_lackOf 4 = .ok (.iload_n 3, 1) := by decide +kernel
theorem dX1_lackOf_5 : decode cX1_lackOf 5 = .ok (.aload_n 0, 1) := by decide +kernel
theorem dX1_lackOf_6 : decode cX1_lackOf 6 = .ok (.getfield 22, 3) := by decide +kernel
theorem dX1_lackOf_9 : decode cX1_lackOf 9 = .ok (.if_icmp .ge 29, 3) := by decide +kernel
theorem dX1_lackOf_12 : decode cX1_lackOf 12 = .ok (.iload_n 1, 1) := by decide +kernel
theorem dX1_lackOf_13 : decode cX1_lackOf 13 = .ok (.iload_n 3, 1) := by decide +kernel
theorem dX1_lackOf_14 : decode cX1_lackOf 14 = .ok (.ishr, 1) := by decide +kernel
theorem dX1_lackOf_15 : decode cX1_lackOf 15 = .ok (.iconst 1, 1) := by decide +kernel
theorem dX1_lackOf_16 : decode cX1_lackOf 16 = .ok (.iand, 1) := by decide +kernel
theorem dX1_lackOf_17 : decode cX1_lackOf 17 = .ok (.iconst 1, 1) := by decide +kernel
theorem dX1_lackOf_18 : decode cX1_lackOf 18 = .ok (.if_icmp .ne 14, 3) := by decide +kernel
theorem dX1_lackOf_21 : decode cX1_lackOf 21 = .ok (.iload_n 2, 1) := by decide +kernel
theorem dX1_lackOf_22 : decode cX1_lackOf 22 = .ok (.aload_n 0, 1) := by decide +kernel
theorem dX1_lackOf_23 : decode cX1_lackOf 23 = .ok (.iload_n 3, 1) := by decide +kernel
theorem dX1_lackOf_24 : decode cX1_lackOf 24 = .ok (.invokevirtual 35, 3) := by decide +kernel
theorem dX1_lackOf_27 : decode cX1_lackOf 27 = .ok (.invokevirtual 76, 3) := by decide +kernel
theorem dX1_lackOf_30 : decode cX1_lackOf 30 = .ok (.iadd, 1) := by decide +kernel
theorem dX1_lackOf_31 : decode cX1_lackOf 31 = .ok (.istore_n 2, 1) := by decide +kernel
theorem dX1_lackOf_32 : decode cX1_lackOf 32 = .ok (.iinc 3 1, 3) := by decide +kernel
theorem dX1_lackOf_35 : decode cX1_lackOf 35 = .ok (.goto (-31), 3) := by decide +kernel
theorem dX1_lackOf_38 : decode cX1_lackOf 38 = .ok (.iload_n 2, 1) := by decide +kernel
theorem dX1_lackOf_39 : decode cX1_lackOf 39 = .ok (.ireturn, 1) := by decide +kernel
set_option maxRecDepth 20000 in
theorem ggX1_allThrough_X1_at : GoodIn wsX1_allThrough wsX1_at := goodIn_r _ [7, 8, 9, 10, 11, 12, 13, 14, 15] (by decide +kernel) (by decide +kernel)
set_option maxRecDepth 20000 in
theorem gX1_allThrough_X1_at : GoodIn wsX1_allThrough (wsV RX1 35 RX1 yX1_at wsX1_at) := goodIn_app (goodIn_of _ (by decide +kernel)) ggX1_allThrough_X1_at
theorem dX1_allThrough_0 : decode cX1_allThrough 0 = .ok (.iconst 0, 1) := by decide +kernel
theorem dX1_allThrough_1 : decode cX1_allThrough 1 = .ok (.istore_n 1, 1) := by decide +kernel
theorem dX1_allThrough_2 : decode cX1_allThrough 2 = .ok (.iconst 0, 1) := by decide +kernel
theorem dX1_allThrough_3 : decode cX1_allThrough 3 = .ok (.istore_n 2, 1) := by decide +kernel
theorem dX1_allThrough_4 : decode cX1_allThrough 4 = .ok (.iload_n 2, 1) := by decide +kernel
theorem dX1_allThrough_5 : decode cX1_allThrough 5 = .ok (.aload_n 0, 1) := by decide +kernel
theorem dX1_allThrough_6 : decode cX1_allThrough 6 = .ok (.getfield 22, 3) := by decide +kernel
theorem dX1_allThrough_9 : decode cX1_allThrough 9 = .ok (.if_icmp .ge 20, 3) := by decide +kernel
theorem dX1_allThrough_12 : decode cX1_allThrough 12 = .ok (.iload_n 1, 1) := by decide +kernel
theorem dX1_allThrough_13 : decode cX1_allThrough 13 = .ok (.aload_n 0, 1) := by decide +kernel
theorem dX1_allThrough_14 : decode cX1_allThrough 14 = .ok (.iload_n 2, 1) := by decide +kernel
theorem dX1_allThrough_15 : decode cX1_allThrough 15 = .ok (.invokevirtual 35, 3) := by decide +kernel
theorem dX1_allThrough_18 : decode cX1_allThrough 18 = .ok (.getfield 86, 3) := by decide +kernel
theorem dX1_allThrough_21 : decode cX1_allThrough 21 = .ok (.iadd, 1) := by decide +kernel
theorem dX1_allThrough_22 : decode cX1_allThrough 22 = .ok (.istore_n 1, 1) := by decide +kernel
theorem dX1_allThrough_23 : decode cX1_allThrough 23 = .ok (.iinc 2 1, 3) := by decide +kernel
theorem dX1_allThrough_26 : decode cX1_allThrough 26 = .ok (.goto (-22), 3) := by decide +kernel
theorem dX1_allThrough_29 : decode cX1_allThrough 29 = .ok (.iload_n 1, 1) := by decide +kernel
theorem dX1_allThrough_30 : decode cX1_allThrough 30 = .ok (.ireturn, 1) := by decide +kernel
set_option maxRecDepth 20000 in
theorem ggX1_allShort_X1_at : GoodIn wsX1_allShort wsX1_at := goodIn_r _ [7, 8, 9, 10, 11, 12, 13, 14, 15] (by decide +kernel) (by decide +kernel)
set_option maxRecDepth 20000 in
theorem gX1_allShort_X1_at : GoodIn wsX1_allShort (wsV RX1 35 RX1 yX1_at wsX1_at) := goodIn_app (goodIn_of _ (by decide +kernel)) ggX1_allShort_X1_at
theorem dX1_allShort_0 : decode cX1_allShort 0 = .ok (.iconst 0, 1) := by decide +kernel
theorem dX1_allShort_1 : decode cX1_allShort 1 = .ok (.istore_n 1, 1) := by decide +kernel
theorem dX1_allShort_2 : decode cX1_allShort 2 = .ok (.iconst 0, 1) := by decide +kernel
theorem dX1_allShort_3 : decode cX1_allShort 3 = .ok (.istore_n 2, 1) := by decide +kernel
theorem dX1_allShort_4 : decode cX1_allShort 4 = .ok (.iload_n 2, 1) := by decide +kernel
theorem dX1_allShort_5 : decode cX1_allShort 5 = .ok (.aload_n 0, 1) := by decide +kernel
theorem dX1_allShort_6 : decode cX1_allShort 6 = .ok (.getfield 22, 3) := by decide +kernel
theorem dX1_allShort_9 : decode cX1_allShort 9 = .ok (.if_icmp .ge 20, 3) := by decide +kernel
theorem dX1_allShort_12 : decode cX1_allShort 12 = .ok (.iload_n 1, 1) := by decide +kernel
theorem dX1_allShort_13 : decode cX1_allShort 13 = .ok (.aload_n 0, 1) := by decide +kernel
theorem dX1_allShort_14 : decode cX1_allShort 14 = .ok (.iload_n 2, 1) := by decide +kernel
theorem dX1_allShort_15 : decode cX1_allShort 15 = .ok (.invokevirtual 35, 3) := by decide +kernel
theorem dX1_allShort_18 : decode cX1_allShort 18 = .ok (.getfield 89, 3) := by decide +kernel
theorem dX1_allShort_21 : decode cX1_allShort 21 = .ok (.iadd, 1) := by decide +kernel
theorem dX1_allShort_22 : decode cX1_allShort 22 = .ok (.istore_n 1, 1) := by decide +kernel
theorem dX1_allShort_23 : decode cX1_allShort 23 = .ok (.iinc 2 1, 3) := by decide +kernel
theorem dX1_allShort_26 : decode cX1_allShort 26 = .ok (.goto (-22), 3) := by decide +kernel
theorem dX1_allShort_29 : decode cX1_allShort 29 = .ok (.iload_n 1, 1) := by decide +kernel
theorem dX1_allShort_30 : decode cX1_allShort 30 = .ok (.ireturn, 1) := by decide +kernel
set_option maxRecDepth 20000 in
theorem ggX1_allHas_X1_at : GoodIn wsX1_allHas wsX1_at := goodIn_r _ [7, 8, 9, 10, 11, 12, 13, 14, 15] (by decide +kernel) (by decide +kernel)
set_option maxRecDepth 20000 in
theorem gX1_allHas_X1_at : GoodIn wsX1_allHas (wsV RX1 35 RX1 yX1_at wsX1_at) := goodIn_app (goodIn_of _ (by decide +kernel)) ggX1_allHas_X1_at
theorem dX1_allHas_0 : decode cX1_allHas 0 = .ok (.iconst 0, 1) := by decide +kernel
theorem dX1_allHas_1 : decode cX1_allHas 1 = .ok (.istore_n 1, 1) := by decide +kernel
theorem dX1_allHas_2 : decode cX1_allHas 2 = .ok (.iconst 0, 1) := by decide +kernel
theorem dX1_allHas_3 : decode cX1_allHas 3 = .ok (.istore_n 2, 1) := by decide +kernel
theorem dX1_allHas_4 : decode cX1_allHas 4 = .ok (.iload_n 2, 1) := by decide +kernel
theorem dX1_allHas_5 : decode cX1_allHas 5 = .ok (.aload_n 0, 1) := by decide +kernel
theorem dX1_allHas_6 : decode cX1_allHas 6 = .ok (.getfield 22, 3) := by decide +kernel
theorem dX1_allHas_9 : decode cX1_allHas 9 = .ok (.if_icmp .ge 20, 3) := by decide +kernel
theorem dX1_allHas_12 : decode cX1_allHas 12 = .ok (.iload_n 1, 1) := by decide +kernel
theorem dX1_allHas_13 : decode cX1_allHas 13 = .ok (.aload_n 0, 1) := by decide +kernel
theorem dX1_allHas_14 : decode cX1_allHas 14 = .ok (.iload_n 2, 1) := by decide +kernel
theorem dX1_allHas_15 : decode cX1_allHas 15 = .ok (.invokevirtual 35, 3) := by decide +kernel
theorem dX1_allHas_18 : decode cX1_allHas 18 = .ok (.getfield 56, 3) := by decide +kernel
theorem dX1_allHas_21 : decode cX1_allHas 21 = .ok (.iadd, 1) := by decide +kernel
theorem dX1_allHas_22 : decode cX1_allHas 22 = .ok (.istore_n 1, 1) := by decide +kernel
theorem dX1_allHas_23 : decode cX1_allHas 23 = .ok (.iinc 2 1, 3) := by decide +kernel
theorem dX1_allHas_26 : decode cX1_allHas 26 = .ok (.goto (-22), 3) := by decide +kernel
theorem dX1_allHas_29 : decode cX1_allHas 29 = .ok (.iload_n 1, 1) := by decide +kernel
theorem dX1_allHas_30 : decode cX1_allHas 30 = .ok (.ireturn, 1) := by decide +kernel
set_option maxRecDepth 20000 in
theorem ggX1_allWithMatter_X1_at : GoodIn wsX1_allWithMatter wsX1_at := goodIn_r _ [7, 8, 9, 10, 11, 12, 13, 14, 15] (by decide +kernel) (by decide +kernel)
set_option maxRecDepth 20000 in
theorem gX1_allWithMatter_X1_at : GoodIn wsX1_allWithMatter (wsV RX1 35 RX1 yX1_at wsX1_at) := goodIn_app (goodIn_of _ (by decide +kernel)) ggX1_allWithMatter_X1_at
theorem dX1_allWithMatter_0 : decode cX1_allWithMatter 0 = .ok (.iconst 0, 1) := by decide +kernel
theorem dX1_allWithMatter_1 : decode cX1_allWithMatter 1 = .ok (.istore_n 1, 1) := by decide +kernel
theorem dX1_allWithMatter_2 : decode cX1_allWithMatter 2 = .ok (.iconst 0, 1) := by decide +kernel
theorem dX1_allWithMatter_3 : decode cX1_allWithMatter 3 = .ok (.istore_n 2, 1) := by decide +kernel
theorem dX1_allWithMatter_4 : decode cX1_allWithMatter 4 = .ok (.iload_n 2, 1) := by decide +kernel
theorem dX1_allWithMatter_5 : decode cX1_allWithMatter 5 = .ok (.aload_n 0, 1) := by decide +kernel
theorem dX1_allWithMatter_6 : decode cX1_allWithMatter 6 = .ok (.getfield 22, 3) := by decide +kernel
theorem dX1_allWithMatter_9 : decode cX1_allWithMatter 9 = .ok (.if_icmp .ge 23, 3) := by decide +kernel
theorem dX1_allWithMatter_12 : decode cX1_allWithMatter 12 = .ok (.aload_n 0, 1) := by decide +kernel
theorem dX1_allWithMatter_13 : decode cX1_allWithMatter 13 = .ok (.iload_n 2, 1) := by decide +kernel
theorem dX1_allWithMatter_14 : decode cX1_allWithMatter 14 = .ok (.invokevirtual 35, 3) := by decide +kernel
theorem dX1_allWithMatter_17 : decode cX1_allWithMatter 17 = .ok (.getfield 49, 3) := by decide +kernel
theorem dX1_allWithMatter_20 : decode cX1_allWithMatter 20 = .ok (.ifCond .le 6, 3) := by decide +kernel
theorem dX1_allWithMatter_23 : decode cX1_allWithMatter 23 = .ok (.iinc 1 1, 3) := by decide +kernel
theorem dX1_allWithMatter_26 : decode cX1_allWithMatter 26 = .ok (.iinc 2 1, 3) := by decide +kernel
theorem dX1_allWithMatter_29 : decode cX1_allWithMatter 29 = .ok (.goto (-25), 3) := by decide +kernel
theorem dX1_allWithMatter_32 : decode cX1_allWithMatter 32 = .ok (.iload_n 1, 1) := by decide +kernel
theorem dX1_allWithMatter_33 : decode cX1_allWithMatter 33 = .ok (.ireturn, 1) := by decide +kernel
theorem dX2_init_0 : decode cX2_init 0 = .ok (.aload_n 0, 1) := by decide +kernel
theorem dX2_init_1 : decode cX2_init 1 = .ok (.invokespecial 3, 3) := by decide +kernel
theorem dX2_init_4 : decode cX2_init 4 = .ok (.return_, 1) := by decide +kernel
theorem dX2_takeFrom_0 : decode cX2_takeFrom 0 = .ok (.aload_n 0, 1) := by decide +kernel
theorem dX2_takeFrom_1 : decode cX2_takeFrom 1 = .ok (.aload_n 1, 1) := by decide +kernel
theorem dX2_takeFrom_2 : decode cX2_takeFrom 2 = .ok (.getfield 9, 3) := by decide +kernel
theorem dX2_takeFrom_5 : decode cX2_takeFrom 5 = .ok (.putfield 9, 3) := by decide +kernel
theorem dX2_takeFrom_8 : decode cX2_takeFrom 8 = .ok (.aload_n 0, 1) := by decide +kernel
theorem dX2_takeFrom_9 : decode cX2_takeFrom 9 = .ok (.aload_n 1, 1) := by decide +kernel
theorem dX2_takeFrom_10 : decode cX2_takeFrom 10 = .ok (.getfield 15, 3) := by decide +kernel
theorem dX2_takeFrom_13 : decode cX2_takeFrom 13 = .ok (.putfield 15, 3) := by decide +kernel
theorem dX2_takeFrom_16 : decode cX2_takeFrom 16 = .ok (.aload_n 0, 1) := by decide +kernel
theorem dX2_takeFrom_17 : decode cX2_takeFrom 17 = .ok (.aload_n 1, 1) := by decide +kernel
theorem dX2_takeFrom_18 : decode cX2_takeFrom 18 = .ok (.getfield 18, 3) := by decide +kernel
theorem dX2_takeFrom_21 : decode cX2_takeFrom 21 = .ok (.putfield 18, 3) := by decide +kernel
theorem dX2_takeFrom_24 : decode cX2_takeFrom 24 = .ok (.aload_n 0, 1) := by decide +kernel
theorem dX2_takeFrom_25 : decode cX2_takeFrom 25 = .ok (.aload_n 1, 1) := by decide +kernel
theorem dX2_takeFrom_26 : decode cX2_takeFrom 26 = .ok (.getfield 21, 3) := by decide +kernel
theorem dX2_takeFrom_29 : decode cX2_takeFrom 29 = .ok (.putfield 21, 3) := by decide +kernel
theorem dX2_takeFrom_32 : decode cX2_takeFrom 32 = .ok (.aload_n 0, 1) := by decide +kernel
theorem dX2_takeFrom_33 : decode cX2_takeFrom 33 = .ok (.aload_n 1, 1) := by decide +kernel
theorem dX2_takeFrom_34 : decode cX2_takeFrom 34 = .ok (.getfield 24, 3) := by decide +kernel
theorem dX2_takeFrom_37 : decode cX2_takeFrom 37 = .ok (.putfield 24, 3) := by decide +kernel
theorem dX2_takeFrom_40 : decode cX2_takeFrom 40 = .ok (.aload_n 0, 1) := by decide +kernel
theorem dX2_takeFrom_41 : decode cX2_takeFrom 41 = .ok (.aload_n 1, 1) := by decide +kernel
theorem dX2_takeFrom_42 : decode cX2_takeFrom 42 = .ok (.getfield 27, 3) := by decide +kernel
theorem dX2_takeFrom_45 : decode cX2_takeFrom 45 = .ok (.putfield 27, 3) := by decide +kernel
theorem dX2_takeFrom_48 : decode cX2_takeFrom 48 = .ok (.aload_n 0, 1) := by decide +kernel
theorem dX2_takeFrom_49 : decode cX2_takeFrom 49 = .ok (.iconst 0, 1) := by decide +kernel
theorem dX2_takeFrom_50 : decode cX2_takeFrom 50 = .ok (.putfield 30, 3) := by decide +kernel
theorem dX2_takeFrom_53 : decode cX2_takeFrom 53 = .ok (.aload_n 0, 1) := by decide +kernel
theorem dX2_takeFrom_54 : decode cX2_takeFrom 54 = .ok (.iconst 0, 1) := by decide +kernel
theorem dX2_takeFrom_55 : decode cX2_takeFrom 55 = .ok (.putfield 33, 3) := by decide +kernel
theorem dX2_takeFrom_58 : decode cX2_takeFrom 58 = .ok (.return_, 1) := by decide +kernel
set_option maxRecDepth 20000 in
theorem ggX2_needed_X0_needs : GoodIn wsX2_needed wsX0_needs := goodIn_r _ [6] (by decide +kernel) (by decide +kernel)
set_option maxRecDepth 20000 in
theorem gX2_needed_X0_needs : GoodIn wsX2_needed (va_wsS RX2 36 yX0_needs wsX0_needs) := goodIn_app (goodIn_of _ (by decide +kernel)) ggX2_needed_X0_needs
theorem dX2_needed_0 : decode cX2_needed 0 = .ok (.aload_n 0, 1) := by decide +kernel
theorem dX2_needed_1 : decode cX2_needed 1 = .ok (.getfield 9, 3) := by decide +kernel
theorem dX2_needed_4 : decode cX2_needed 4 = .ok (.aload_n 0, 1) := by decide +kernel
theorem dX2_needed_5 : decode cX2_needed 5 = .ok (.getfield 15, 3) := by decide +kernel
theorem dX2_needed_8 : decode cX2_needed 8 = .ok (.invokestatic 36, 3) := by decide +kernel
theorem dX2_needed_11 : decode cX2_needed 11 = .ok (.ireturn, 1) := by decide +kernel
set_option maxRecDepth 20000 in
theorem ggX2_lacking_X2_needed : GoodIn wsX2_lacking wsX2_needed := goodIn_r _ [11, 12, 13, 14, 15, 16, 17, 18, 19, 20, 21, 22, 23, 24, 25] (by decide +kernel) (by decide +kernel)
set_option maxRecDepth 20000 in
theorem gX2_lacking_X2_needed : GoodIn wsX2_lacking (wsV RX2 42 RX2 yX2_needed wsX2_needed) := goodIn_app (goodIn_of _ (by decide +kernel)) ggX2_lacking_X2_needed
theorem dX2_lacking_0 : decode cX2_lacking 0 = .ok (.aload_n 0, 1) := by decide +kernel
theorem dX2_lacking_1 : decode cX2_lacking 1 = .ok (.getfield 21, 3) := by decide +kernel
theorem dX2_lacking_4 : decode cX2_lacking 4 = .ok (.ifCond .ne 7, 3) := by decide +kernel
theorem dX2_lacking_7 : decode cX2_lacking 7 = .ok (.iconst 0, 1) := by decide +kernel
theorem dX2_lacking_8 : decode cX2_lacking 8 = .ok (.goto 16, 3) := by decide +kernel
theorem dX2_lacking_11 : decode cX2_lacking 11 = .ok (.iconst 0, 1) := by decide +kernel
theorem dX2_lacking_12 : decode cX2_lacking 12 = .ok (.aload_n 0, 1) := by decide +kernel
theorem dX2_lacking_13 : decode cX2_lacking 13 = .ok (.invokevirtual 42, 3) := by decide +kernel
theorem dX2_lacking_16 : decode cX2_lacking 16 = .ok (.aload_n 0, 1) := by decide +kernel
theorem dX2_lacking_17 : decode cX2_lacking 17 = .ok (.getfield 18, 3) := by decide +kernel
theorem dX2_lacking_20 : decode cX2_lacking 20 = .ok (.isub, 1) := by decide +kernel
theorem dX2_lacking_21 : decode cX2_lacking 21 = .ok (.invokestatic 46, 3) := by decide +kernel
theorem dX2_lacking_24 : decode cX2_lacking 24 = .ok (.ireturn, 1) := by decide +kernel
set_option maxRecDepth 20000 in
theorem ggX2_oneDay_X0_needs : GoodIn wsX2_oneDay wsX0_needs := goodIn_r _ [16] (by decide +kernel) (by decide +kernel)
set_option maxRecDepth 20000 in
theorem gX2_oneDay_X0_needs : GoodIn wsX2_oneDay (va_wsS RX2 36 yX0_needs wsX0_needs) := goodIn_app (goodIn_of _ (by decide +kernel)) ggX2_oneDay_X0_needs
set_option maxRecDepth 20000 in
theorem ggX2_oneDay_X0_wears : GoodIn wsX2_oneDay wsX0_wears := goodIn_r _ [19] (by decide +kernel) (by decide +kernel)
set_option maxRecDepth 20000 in
theorem gX2_oneDay_X0_wears : GoodIn wsX2_oneDay (va_wsS RX2 54 yX0_wears wsX0_wears) := goodIn_app (goodIn_of _ (by decide +kernel)) ggX2_oneDay_X0_wears
set_option maxRecDepth 20000 in
theorem ggX2_oneDay_X0_nextIn : GoodIn wsX2_oneDay wsX0_nextIn := goodIn_r _ [22] (by decide +kernel) (by decide +kernel)
set_option maxRecDepth 20000 in
theorem gX2_oneDay_X0_nextIn : GoodIn wsX2_oneDay (va_wsS RX2 57 yX0_nextIn wsX0_nextIn) := goodIn_app (goodIn_of _ (by decide +kernel)) ggX2_oneDay_X0_nextIn
theorem dX2_oneDay_0 : decode cX2_oneDay 0 = .ok (.aload_n 0, 1) := by decide +kernel
theorem dX2_oneDay_1 : decode cX2_oneDay 1 = .ok (.getfield 21, 3) := by decide +kernel
theorem dX2_oneDay_4 : decode cX2_oneDay 4 = .ok (.ifCond .ne 5, 3) := by decide +kernel
theorem dX2_oneDay_7 : decode cX2_oneDay 7 = .ok (.iconst 0, 1) := by decide +kernel
theorem dX2_oneDay_8 : decode cX2_oneDay 8 = .ok (.ireturn, 1) := by decide +kernel
theorem dX2_oneDay_9 : decode cX2_oneDay 9 = .ok (.aload_n 0, 1) := by decide +kernel
theorem dX2_oneDay_10 : decode cX2_oneDay 10 = .ok (.dup, 1) := by decide +kernel
theorem dX2_oneDay_11 : decode cX2_oneDay 11 = .ok (.getfield 21, 3) := by decide +kernel
theorem dX2_oneDay_14 : decode cX2_oneDay 14 = .ok (.iconst 1, 1) := by decide +kernel
theorem dX2_oneDay_15 : decode cX2_oneDay 15 = .ok (.isub, 1) := by decide +kernel
theorem dX2_oneDay_16 : decode cX2_oneDay 16 = .ok (.putfield 21, 3) := by decide +kernel
theorem dX2_oneDay_19 : decode cX2_oneDay 19 = .ok (.aload_n 0, 1) := by decide +kernel
theorem dX2_oneDay_20 : decode cX2_oneDay 20 = .ok (.getfield 21, 3) := by decide +kernel
theorem dX2_oneDay_23 : decode cX2_oneDay 23 = .ok (.ifCond .le 5, 3) := by decide +kernel
theorem dX2_oneDay_26 : decode cX2_oneDay 26 = .ok (.iconst 0, 1) := by decide +kernel
theorem dX2_oneDay_27 : decode cX2_oneDay 27 = .ok (.ireturn, 1) := by decide +kernel
theorem dX2_oneDay_28 : decode cX2_oneDay 28 = .ok (.aload_n 0, 1) := by decide +kernel
theorem dX2_oneDay_29 : decode cX2_oneDay 29 = .ok (.getfield 9, 3) := by decide +kernel
theorem dX2_oneDay_32 : decode cX2_oneDay 32 = .ok (.aload_n 0, 1) := by decide +kernel
theorem dX2_oneDay_33 : decode cX2_oneDay 33 = .ok (.getfield 15, 3) := by decide +kernel
theorem dX2_oneDay_36 : decode cX2_oneDay 36 = .ok (.invokestatic 36, 3) := by decide +kernel
theorem dX2_oneDay_39 : decode cX2_oneDay 39 = .ok (.istore_n 1, 1) := by decide +kernel
theorem dX2_oneDay_40 : decode cX2_oneDay 40 = .ok (.iconst 0, 1) := by decide +kernel
theorem dX2_oneDay_41 : decode cX2_oneDay 41 = .ok (.istore_n 2, 1) := by decide +kernel
theorem dX2_oneDay_42 : decode cX2_oneDay 42 = .ok (.aload_n 0, 1) := by decide +kernel
theorem dX2_oneDay_43 : decode cX2_oneDay 43 = .ok (.getfield 18, 3) := by decide +kernel
theorem dX2_oneDay_46 : decode cX2_oneDay 46 = .ok (.iload_n 1, 1) := by decide +kernel
theorem dX2_oneDay_47 : decode cX2_oneDay 47 = .ok (.if_icmp .lt 58, 3) := by decide +kernel
theorem dX2_oneDay_50 : decode cX2_oneDay 50 = .ok (.aload_n 0, 1) := by decide +kernel
theorem dX2_oneDay_51 : decode cX2_oneDay 51 = .ok (.dup, 1) := by decide +kernel
theorem dX2_oneDay_52 : decode cX2_oneDay 52 = .ok (.getfield 30, 3) := by decide +kernel
theorem dX2_oneDay_55 : decode cX2_oneDay 55 = .ok (.iconst 1, 1) := by decide +kernel
theorem dX2_oneDay_56 : decode cX2_oneDay 56 = .ok (.iadd, 1) := by decide +kernel
theorem dX2_oneDay_57 : decode cX2_oneDay 57 = .ok (.putfield 30, 3) := by decide +kernel
theorem dX2_oneDay_60 : decode cX2_oneDay 60 = .ok (.aload_n 0, 1) := by decide +kernel
theorem dX2_oneDay_61 : decode cX2_oneDay 61 = .ok (.aload_n 0, 1) := by decide +kernel
theorem dX2_oneDay_62 : decode cX2_oneDay 62 = .ok (.getfield 24, 3) := by decide +kernel
theorem dX2_oneDay_65 : decode cX2_oneDay 65 = .ok (.iconst 1, 1) := by decide +kernel
theorem dX2_oneDay_66 : decode cX2_oneDay 66 = .ok (.iadd, 1) := by decide +kernel
theorem dX2_oneDay_67 : decode cX2_oneDay 67 = .ok (.sipush 999, 3) := by decide +kernel
theorem dX2_oneDay_70 : decode cX2_oneDay 70 = .ok (.invokestatic 51, 3) := by decide +kernel
theorem dX2_oneDay_73 : decode cX2_oneDay 73 = .ok (.putfield 24, 3) := by decide +kernel
theorem dX2_oneDay_76 : decode cX2_oneDay 76 = .ok (.aload_n 0, 1) := by decide +kernel
theorem dX2_oneDay_77 : decode cX2_oneDay 77 = .ok (.getfield 9, 3) := by decide +kernel
theorem dX2_oneDay_80 : decode cX2_oneDay 80 = .ok (.iload_n 1, 1) := by decide +kernel
theorem dX2_oneDay_81 : decode cX2_oneDay 81 = .ok (.invokestatic 54, 3) := by decide +kernel
theorem dX2_oneDay_84 : decode cX2_oneDay 84 = .ok (.aload_n 0, 1) := by decide +kernel
theorem dX2_oneDay_85 : decode cX2_oneDay 85 = .ok (.getfield 18, 3) := by decide +kernel
theorem dX2_oneDay_88 : decode cX2_oneDay 88 = .ok (.invokestatic 51, 3) := by decide +kernel
theorem dX2_oneDay_91 : decode cX2_oneDay 91 = .ok (.istore_n 2, 1) := by decide +kernel
theorem dX2_oneDay_92 : decode cX2_oneDay 92 = .ok (.aload_n 0, 1) := by decide +kernel
theorem dX2_oneDay_93 : decode cX2_oneDay 93 = .ok (.dup, 1) := by decide +kernel
theorem dX2_oneDay_94 : decode cX2_oneDay 94 = .ok (.getfield 18, 3) := by decide +kernel
theorem dX2_oneDay_97 : decode cX2_oneDay 97 = .ok (.iload_n 2, 1) := by decide +kernel
theorem dX2_oneDay_98 : decode cX2_oneDay 98 = .ok (.isub, 1) := by decide +kernel
theorem dX2_oneDay_99 : decode cX2_oneDay 99 = .ok (.putfield 18, 3) := by decide +kernel
theorem dX2_oneDay_102 : decode cX2_oneDay 102 = .ok (.goto 29, 3) := by decide +kernel
theorem dX2_oneDay_105 : decode cX2_oneDay 105 = .ok (.aload_n 0, 1) := by decide +kernel
theorem dX2_oneDay_106 : decode cX2_oneDay 106 = .ok (.dup, 1) := by decide +kernel
theorem dX2_oneDay_107 : decode cX2_oneDay 107 = .ok (.getfield 33, 3) := by decide +kernel
theorem dX2_oneDay_110 : decode cX2_oneDay 110 = .ok (.iconst 1, 1) := by decide +kernel
theorem dX2_oneDay_111 : decode cX2_oneDay 111 = .ok (.iadd, 1) := by decide +kernel
theorem dX2_oneDay_112 : decode cX2_oneDay 112 = .ok (.putfield 33, 3) := by decide +kernel
theorem dX2_oneDay_115 : decode cX2_oneDay 115 = .ok (.aload_n 0, 1) := by decide +kernel
theorem dX2_oneDay_116 : decode cX2_oneDay 116 = .ok (.aload_n 0, 1) := by decide +kernel
theorem dX2_oneDay_117 : decode cX2_oneDay 117 = .ok (.getfield 27, 3) := by decide +kernel
theorem dX2_oneDay_120 : decode cX2_oneDay 120 = .ok (.iconst 1, 1) := by decide +kernel
theorem dX2_oneDay_121 : decode cX2_oneDay 121 = .ok (.iadd, 1) := by decide +kernel
theorem dX2_oneDay_122 : decode cX2_oneDay 122 = .ok (.sipush 999, 3) := by decide +kernel
theorem dX2_oneDay_125 : decode cX2_oneDay 125 = .ok (.invokestatic 51, 3) := by decide +kernel
theorem dX2_oneDay_128 : decode cX2_oneDay 128 = .ok (.putfield 27, 3) := by decide +kernel
theorem dX2_oneDay_131 : decode cX2_oneDay 131 = .ok (.aload_n 0, 1) := by decide +kernel
theorem dX2_oneDay_132 : decode cX2_oneDay 132 = .ok (.aload_n 0, 1) := by decide +kernel
theorem dX2_oneDay_133 : decode cX2_oneDay 133 = .ok (.getfield 9, 3) := by decide +kernel
theorem dX2_oneDay_136 : decode cX2_oneDay 136 = .ok (.invokestatic 57, 3) := by decide +kernel
theorem dX2_oneDay_139 : decode cX2_oneDay 139 = .ok (.putfield 21, 3) := by decide +kernel
theorem dX2_oneDay_142 : decode cX2_oneDay 142 = .ok (.iload_n 2, 1) := by decide +kernel
theorem dX2_oneDay_143 : decode cX2_oneDay 143 = .ok (.ireturn, 1) := by decide +kernel
theorem dX3_init_0 : decode cX3_init 0 = .ok (.aload_n 0, 1) := by decide +kernel
theorem dX3_init_1 : decode cX3_init 1 = .ok (.invokespecial 3, 3) := by decide +kernel
theorem dX3_init_4 : decode cX3_init 4 = .ok (.aload_n 0, 1) := by decide +kernel
theorem dX3_init_5 : decode cX3_init 5 = .ok (.bipush 96, 2) := by decide +kernel
theorem dX3_init_7 : decode cX3_init 7 = .ok (.newarray .int, 2) := by decide +kernel
theorem dX3_init_9 : decode cX3_init 9 = .ok (.putfield 9, 3) := by decide +kernel
theorem dX3_init_12 : decode cX3_init 12 = .ok (.return_, 1) := by decide +kernel
theorem dX3_add_0 : decode cX3_add 0 = .ok (.aload_n 0, 1) := by decide +kernel
theorem dX3_add_1 : decode cX3_add 1 = .ok (.getfield 15, 3) := by decide +kernel
theorem dX3_add_4 : decode cX3_add 4 = .ok (.ifCond .lt 32, 3) := by decide +kernel
theorem dX3_add_7 : decode cX3_add 7 = .ok (.aload_n 0, 1) := by decide +kernel
theorem dX3_add_8 : decode cX3_add 8 = .ok (.getfield 15, 3) := by decide +kernel
theorem dX3_add_11 : decode cX3_add 11 = .ok (.aload_n 0, 1) := by decide +kernel
theorem dX3_add_12 : decode cX3_add 12 = .ok (.getfield 9, 3) := by decide +kernel
theorem dX3_add_15 : decode cX3_add 15 = .ok (.arraylength, 1) := by decide +kernel
theorem dX3_add_16 : decode cX3_add 16 = .ok (.if_icmp .ge 20, 3) := by decide +kernel
theorem dX3_add_19 : decode cX3_add 19 = .ok (.aload_n 0, 1) := by decide +kernel
theorem dX3_add_20 : decode cX3_add 20 = .ok (.getfield 9, 3) := by decide +kernel
theorem dX3_add_23 : decode cX3_add 23 = .ok (.aload_n 0, 1) := by decide +kernel
theorem dX3_add_24 : decode cX3_add 24 = .ok (.dup, 1) := by decide +kernel
theorem dX3_add_25 : decode cX3_add 25 = .ok (.getfield 15, 3) := by decide +kernel
theorem dX3_add_28 : decode cX3_add 28 = .ok (.dup_x1, 1) := by decide +kernel
theorem dX3_add_29 : decode cX3_add 29 = .ok (.iconst 1, 1) := by decide +kernel
theorem dX3_add_30 : decode cX3_add 30 = .ok (.iadd, 1) := by decide +kernel
theorem dX3_add_31 : decode cX3_add 31 = .ok (.putfield 15, 3) := by decide +kernel
theorem dX3_add_34 : decode cX3_add 34 = .ok (.iload_n 1, 1) := by decide +kernel
theorem dX3_add_35 : decode cX3_add 35 = .ok (.iastore, 1) := by decide +kernel
theorem dX3_add_36 : decode cX3_add 36 = .ok (.return_, 1) := by decide +kernel
theorem dX3_letterAt_0 : decode cX3_letterAt 0 = .ok (.iload_n 1, 1) := by decide +kernel
theorem dX3_letterAt_1 : decode cX3_letterAt 1 = .ok (.ifCond .lt 29, 3) := by decide +kernel
theorem dX3_letterAt_4 : decode cX3_letterAt 4 = .ok (.iload_n 1, 1) := by decide +kernel
theorem dX3_letterAt_5 : decode cX3_letterAt 5 = .ok (.aload_n 0, 1) := by decide +kernel
theorem dX3_letterAt_6 : decode cX3_letterAt 6 = .ok (.getfield 15, 3) := by decide +kernel
theorem dX3_letterAt_9 : decode cX3_letterAt 9 = .ok (.if_icmp .ge 21, 3) := by decide +kernel
theorem dX3_letterAt_12 : decode cX3_letterAt 12 = .ok (.iload_n 1, 1) := by decide +kernel
theorem dX3_letterAt_13 : decode cX3_letterAt 13 = .ok (.aload_n 0, 1) := by decide +kernel
theorem dX3_letterAt_14 : decode cX3_letterAt 14 = .ok (.getfield 9, 3) := by decide +kernel
theorem dX3_letterAt_17 : decode cX3_letterAt 17 = .ok (.arraylength, 1) := by decide +kernel
theorem dX3_letterAt_18 : decode cX3_letterAt 18 = .ok (.if_icmp .ge 12, 3) := by decide +kernel
theorem dX3_letterAt_21 : decode cX3_letterAt 21 = .ok (.aload_n 0, 1) := by decide +kernel
theorem dX3_letterAt_22 : decode cX3_letterAt 22 = .ok (.getfield 9, 3) := by decide +kernel
theorem dX3_letterAt_25 : decode cX3_letterAt 25 = .ok (.iload_n 1, 1) := by decide +kernel
theorem dX3_letterAt_26 : decode cX3_letterAt 26 = .ok (.iaload, 1) := by decide +kernel
theorem dX3_letterAt_27 : decode cX3_letterAt 27 = .ok (.goto 4, 3) := by decide +kernel
theorem dX3_letterAt_30 : decode cX3_letterAt 30 = .ok (.iconst (-1), 1) := by decide +kernel
theorem dX3_letterAt_31 : decode cX3_letterAt 31 = .ok (.ireturn, 1) := by decide +kernel
set_option maxRecDepth 20000 in
theorem ggX3_kindAt_X3_letterAt : GoodIn wsX3_kindAt wsX3_letterAt := goodIn_r _ [5, 6, 7, 97, 98] (by decide +kernel) (by decide +kernel)
set_option maxRecDepth 20000 in
theorem gX3_kindAt_X3_letterAt : GoodIn wsX3_kindAt (wsV RX3 19 RX3 yX3_letterAt wsX3_letterAt) := goodIn_app (goodIn_of _ (by decide +kernel)) ggX3_kindAt_X3_letterAt
set_option maxRecDepth 20000 in
theorem ggX3_kindAt_J0_indexOf_0f7a4 : GoodIn wsX3_kindAt wsJ0_indexOf_0f7a4 := goodIn_r _ [12, 13, 14, 15, 11, 16, 17, 18, 19, 20, 21, 22, 23, 24, 25, 26, 27, 28, 29, 30, 31, 32, 33, 34, 35, 36, 37, 38, 39, 40, 41, 42, 43, 44, 45, 46, 47, 48, 49, 50, 51, 52, 53, 54, 55, 56, 57, 58, 59, 60, 61, 62, 63, 64, 65, 66, 67, 68, 69, 70, 71, 72, 73, 74, 75, 76, 77, 78, 79, 80, 81, 82, 83, 84, 85, 86, 87, 88, 89, 90, 91, 92, 93, 94, 95, 96] (by decide +kernel) (by decide +kernel)
set_option maxRecDepth 20000 in
theorem gX3_kindAt_J0_indexOf_0f7a4 : GoodIn wsX3_kindAt (wsV RX3 25 RJ0 yJ0_indexOf_0f7a4 wsJ0_indexOf_0f7a4) := goodIn_app (goodIn_of _ (by decide +kernel)) ggX3_kindAt_J0_indexOf_0f7a4
theorem dX3_kindAt_0 : decode cX3_kindAt 0 = .ok (.aload_n 0, 1) := by decide +kernel
theorem dX3_kindAt_1 : decode cX3_kindAt 1 = .ok (.iload_n 1, 1) := by decide +kernel
theorem dX3_kindAt_2 : decode cX3_kindAt 2 = .ok (.invokevirtual 19, 3) := by decide +kernel
theorem dX3_kindAt_5 : decode cX3_kindAt 5 = .ok (.istore_n 2, 1) := by decide +kernel
theorem dX3_kindAt_6 : decode cX3_kindAt 6 = .ok (.iload_n 2, 1) := by decide +kernel
theorem dX3_kindAt_7 : decode cX3_kindAt 7 = .ok (.ifCond .ge 7, 3) := by decide +kernel
theorem dX3_kindAt_10 : decode cX3_kindAt 10 = .ok (.iconst (-1), 1) := by decide +kernel
theorem dX3_kindAt_11 : decode cX3_kindAt 11 = .ok (.goto 10, 3) := by decide +kernel
theorem dX3_kindAt_14 : decode cX3_kindAt 14 = .ok (.ldc 23, 2) := by decide +kernel
theorem dX3_kindAt_16 : decode cX3_kindAt 16 = .ok (.iload_n 2, 1) := by decide +kernel
theorem dX3_kindAt_17 : decode cX3_kindAt 17 = .ok (.i2c, 1) := by decide +kernel
theorem dX3_kindAt_18 : decode cX3_kindAt 18 = .ok (.invokevirtual 25, 3) := by decide +kernel
theorem dX3_kindAt_21 : decode cX3_kindAt 21 = .ok (.ireturn, 1) := by decide +kernel
set_option maxRecDepth 20000 in
theorem ggX3_number_X3_letterAt : GoodIn wsX3_number wsX3_letterAt := goodIn_r _ [5, 6, 7, 8, 9] (by decide +kernel) (by decide +kernel)
set_option maxRecDepth 20000 in
theorem gX3_number_X3_letterAt : GoodIn wsX3_number (wsV RX3 19 RX3 yX3_letterAt wsX3_letterAt) := goodIn_app (goodIn_of _ (by decide +kernel)) ggX3_number_X3_letterAt
theorem dX3_number_0 : decode cX3_number 0 = .ok (.iconst 0, 1) := by decide +kernel
theorem dX3_number_1 : decode cX3_number 1 = .ok (.istore_n 3, 1) := by decide +kernel
theorem dX3_number_2 : decode cX3_number 2 = .ok (.iconst 0, 1) := by decide +kernel
theorem dX3_number_3 : decode cX3_number 3 = .ok (.istore 4, 2) := by decide +kernel
theorem dX3_number_5 : decode cX3_number 5 = .ok (.iload 4, 2) := by decide +kernel
theorem dX3_number_7 : decode cX3_number 7 = .ok (.iload_n 2, 1) := by decide +kernel
theorem dX3_number_8 : decode cX3_number 8 = .ok (.if_icmp .ge 26, 3) := by decide +kernel
theorem dX3_number_11 : decode cX3_number 11 = .ok (.iload_n 3, 1) := by decide +kernel
theorem dX3_number_12 : decode cX3_number 12 = .ok (.bipush 10, 2) := by decide +kernel
theorem dX3_number_14 : decode cX3_number 14 = .ok (.imul, 1) := by decide +kernel
theorem dX3_number_15 : decode cX3_number 15 = .ok (.aload_n 0, 1) := by decide +kernel
theorem dX3_number_16 : decode cX3_number 16 = .ok (.iload_n 1, 1) := by decide +kernel
theorem dX3_number_17 : decode cX3_number 17 = .ok (.iload 4, 2) := by decide +kernel
theorem dX3_number_19 : decode cX3_number 19 = .ok (.iadd, 1) := by decide +kernel
theorem dX3_number_20 : decode cX3_number 20 = .ok (.invokevirtual 19, 3) := by decide +kernel
theorem dX3_number_23 : decode cX3_number 23 = .ok (.iadd, 1) := by decide +kernel
theorem dX3_number_24 : decode cX3_number 24 = .ok (.bipush 48, 2) := by decide +kernel
theorem dX3_number_26 : decode cX3_number 26 = .ok (.isub, 1) := by decide +kernel
theorem dX3_number_27 : decode cX3_number 27 = .ok (.istore_n 3, 1) := by decide +kernel
theorem dX3_number_28 : decode cX3_number 28 = .ok (.iinc 4 1, 3) := by decide +kernel
theorem dX3_number_31 : decode cX3_number 31 = .ok (.goto (-26), 3) := by decide +kernel
theorem dX3_number_34 : decode cX3_number 34 = .ok (.iload_n 3, 1) := by decide +kernel
theorem dX3_number_35 : decode cX3_number 35 = .ok (.ireturn, 1) := by decide +kernel
set_option maxRecDepth 20000 in
theorem ggX3_lengthAt_X3_letterAt : GoodIn wsX3_lengthAt wsX3_letterAt := goodIn_r _ [5, 6, 7, 23, 24] (by decide +kernel) (by decide +kernel)
set_option maxRecDepth 20000 in
theorem gX3_lengthAt_X3_letterAt : GoodIn wsX3_lengthAt (wsV RX3 19 RX3 yX3_letterAt wsX3_letterAt) := goodIn_app (goodIn_of _ (by decide +kernel)) ggX3_lengthAt_X3_letterAt
set_option maxRecDepth 20000 in
theorem ggX3_lengthAt_X3_behind : GoodIn wsX3_lengthAt wsX3_behind := goodIn_r _ [10] (by decide +kernel) (by decide +kernel)
set_option maxRecDepth 20000 in
theorem gX3_lengthAt_X3_behind : GoodIn wsX3_lengthAt (va_wsS RX3 30 yX3_behind wsX3_behind) := goodIn_app (goodIn_of _ (by decide +kernel)) ggX3_lengthAt_X3_behind
set_option maxRecDepth 20000 in
theorem ggX3_lengthAt_J0_length_8abf5 : GoodIn wsX3_lengthAt wsJ0_length_8abf5 := goodIn_r _ [15, 16, 17, 18, 19, 14, 20, 21, 22] (by decide +kernel) (by decide +kernel)
set_option maxRecDepth 20000 in
theorem gX3_lengthAt_J0_length_8abf5 : GoodIn wsX3_lengthAt (wsV RX3 34 RJ0 yJ0_length_8abf5 wsJ0_length_8abf5) := goodIn_app (goodIn_of _ (by decide +kernel)) ggX3_lengthAt_J0_length_8abf5
theorem dX3_lengthAt_0 : decode cX3_lengthAt 0 = .ok (.iconst 1, 1) := by decide +kernel
theorem dX3_lengthAt_1 : decode cX3_lengthAt 1 = .ok (.aload_n 0, 1) := by decide +kernel
theorem dX3_lengthAt_2 : decode cX3_lengthAt 2 = .ok (.iload_n 1, 1) := by decide +kernel
theorem dX3_lengthAt_3 : decode cX3_lengthAt 3 = .ok (.invokevirtual 19, 3) := by decide +kernel
theorem dX3_lengthAt_6 : decode cX3_lengthAt 6 = .ok (.invokestatic 30, 3) := by decide +kernel
theorem dX3_lengthAt_9 : decode cX3_lengthAt 9 = .ok (.invokevirtual 34, 3) := by decide +kernel
theorem dX3_lengthAt_12 : decode cX3_lengthAt 12 = .ok (.iadd, 1) := by decide +kernel
theorem dX3_lengthAt_13 : decode cX3_lengthAt 13 = .ok (.ireturn, 1) := by decide +kernel
set_option maxRecDepth 20000 in
theorem ggX3_firstWrong_X3_letterAt : GoodIn wsX3_firstWrong wsX3_letterAt := goodIn_r _ [6, 1, 7, 133, 134] (by decide +kernel) (by decide +kernel)
set_option maxRecDepth 20000 in
theorem gX3_firstWrong_X3_letterAt : GoodIn wsX3_firstWrong (wsV RX3 19 RX3 yX3_letterAt wsX3_letterAt) := goodIn_app (goodIn_of _ (by decide +kernel)) ggX3_firstWrong_X3_letterAt
set_option maxRecDepth 20000 in
theorem ggX3_firstWrong_X3_behind : GoodIn wsX3_firstWrong wsX3_behind := goodIn_r _ [10] (by decide +kernel) (by decide +kernel)
set_option maxRecDepth 20000 in
theorem gX3_firstWrong_X3_behind : GoodIn wsX3_firstWrong (va_wsS RX3 30 yX3_behind wsX3_behind) := goodIn_app (goodIn_of _ (by decide +kernel)) ggX3_firstWrong_X3_behind
set_option maxRecDepth 20000 in
theorem ggX3_firstWrong_J0_isEmpty_aae02 : GoodIn wsX3_firstWrong wsJ0_isEmpty_aae02 := goodIn_r _ [15, 16] (by decide +kernel) (by decide +kernel)
set_option maxRecDepth 20000 in
theorem gX3_firstWrong_J0_isEmpty_aae02 : GoodIn wsX3_firstWrong (wsV RX3 38 RJ0 yJ0_isEmpty_aae02 wsJ0_isEmpty_aae02) := goodIn_app (goodIn_of _ (by decide +kernel)) ggX3_firstWrong_J0_isEmpty_aae02
set_option maxRecDepth 20000 in
theorem ggX3_firstWrong_J0_length_8abf5 : GoodIn wsX3_firstWrong wsJ0_length_8abf5 := goodIn_r _ [20, 16, 21, 22, 23, 14, 24, 25, 26] (by decide +kernel) (by decide +kernel)
set_option maxRecDepth 20000 in
theorem gX3_firstWrong_J0_length_8abf5 : GoodIn wsX3_firstWrong (wsV RX3 34 RJ0 yJ0_length_8abf5 wsJ0_length_8abf5) := goodIn_app (goodIn_of _ (by decide +kernel)) ggX3_firstWrong_J0_length_8abf5
set_option maxRecDepth 20000 in
theorem ggX3_firstWrong_J0_charAt_5068e : GoodIn wsX3_firstWrong wsJ0_charAt_5068e := goodIn_r _ [30, 16, 31, 32, 33, 14, 34, 25, 26, 35, 36, 37, 38, 39, 40, 41, 42, 43, 44, 45, 46, 47, 48, 49, 50, 51, 52, 53, 54, 55, 56, 57, 58, 59, 60, 61, 62, 63] (by decide +kernel) (by decide +kernel)
set_option maxRecDepth 20000 in
theorem gX3_firstWrong_J0_charAt_5068e : GoodIn wsX3_firstWrong (wsV RX3 42 RJ0 yJ0_charAt_5068e wsJ0_charAt_5068e) := goodIn_app (goodIn_of _ (by decide +kernel)) ggX3_firstWrong_J0_charAt_5068e
set_option maxRecDepth 20000 in
theorem ggX3_firstWrong_X3_fits : GoodIn wsX3_firstWrong wsX3_fits := goodIn_r _ [67, 2, 3, 4, 5, 6, 1, 7, 68, 69, 70, 71, 72, 73, 74, 14, 75, 76, 77, 78, 79, 16, 31, 32, 33, 34, 25, 26, 80, 18, 19, 20, 21, 22, 23, 24, 81, 82, 37, 83, 84, 85, 86, 87, 88, 89, 90, 91, 92, 93, 94, 95, 96, 97, 98, 49, 99, 100, 101, 102, 103, 104, 105, 106, 107, 108, 54, 55, 56, 109, 110, 111, 42, 112, 113, 45, 114, 115, 116, 117, 58, 59, 60, 61, 62, 63, 118, 119, 120, 121, 122, 123, 124, 125, 126, 127, 128, 129, 130, 131, 132, 133, 134] (by decide +kernel) (by decide +kernel)
set_option maxRecDepth 20000 in
theorem gX3_firstWrong_X3_fits : GoodIn wsX3_firstWrong (wsV RX3 46 RX3 yX3_fits wsX3_fits) := goodIn_app (goodIn_of _ (by decide +kernel)) ggX3_firstWrong_X3_fits
theorem dX3_firstWrong_0 : decode cX3_firstWrong 0 = .ok (.aload_n 0, 1) := by decide +kernel
theorem dX3_firstWrong_1 : decode cX3_firstWrong 1 = .ok (.getfield 15, 3) := by decide +kernel
theorem dX3_firstWrong_4 : decode cX3_firstWrong 4 = .ok (.ifCond .ne 5, 3) := by decide +kernel
theorem dX3_firstWrong_7 : decode cX3_firstWrong 7 = .ok (.iconst 0, 1) := by decide +kernel
theorem dX3_firstWrong_8 : decode cX3_firstWrong 8 = .ok (.ireturn, 1) := by decide +kernel
theorem dX3_firstWrong_9 : decode cX3_firstWrong 9 = .ok (.iconst 0, 1) := by decide +kernel
theorem dX3_firstWrong_10 : decode cX3_firstWrong 10 = .ok (.istore_n 1, 1) := by decide +kernel
theorem dX3_firstWrong_11 : decode cX3_firstWrong 11 = .ok (.iload_n 1, 1) := by decide +kernel
theorem dX3_firstWrong_12 : decode cX3_firstWrong 12 = .ok (.aload_n 0, 1) := by decide +kernel
theorem dX3_firstWrong_13 : decode cX3_firstWrong 13 = .ok (.getfield 15, 3) := by decide +kernel
theorem dX3_firstWrong_16 : decode cX3_firstWrong 16 = .ok (.if_icmp .ge 61, 3) := by decide +kernel
theorem dX3_firstWrong_19 : decode cX3_firstWrong 19 = .ok (.aload_n 0, 1) := by decide +kernel
theorem dX3_firstWrong_20 : decode cX3_firstWrong 20 = .ok (.iload_n 1, 1) := by decide +kernel
theorem dX3_firstWrong_21 : decode cX3_firstWrong 21 = .ok (.invokevirtual 19, 3) := by decide +kernel
theorem dX3_firstWrong_24 : decode cX3_firstWrong 24 = .ok (.invokestatic 30, 3) := by decide +kernel
theorem dX3_firstWrong_27 : decode cX3_firstWrong 27 = .ok (.astore_n 2, 1) := by decide +kernel
theorem dX3_firstWrong_28 : decode cX3_firstWrong 28 = .ok (.aload_n 2, 1) := by decide +kernel
theorem dX3_firstWrong_29 : decode cX3_firstWrong 29 = .ok (.invokevirtual 38, 3) := by decide +kernel
theorem dX3_firstWrong_32 : decode cX3_firstWrong 32 = .ok (.ifCond .eq 5, 3) := by decide +kernel
theorem dX3_firstWrong_35 : decode cX3_firstWrong 35 = .ok (.iload_n 1, 1) := by decide +kernel
theorem dX3_firstWrong_36 : decode cX3_firstWrong 36 = .ok (.ireturn, 1) := by decide +kernel
theorem dX3_firstWrong_37 : decode cX3_firstWrong 37 = .ok (.iinc 1 1, 3) := by decide +kernel
theorem dX3_firstWrong_40 : decode cX3_firstWrong 40 = .ok (.iconst 0, 1) := by decide +kernel
theorem dX3_firstWrong_41 : decode cX3_firstWrong 41 = .ok (.istore_n 3, 1) := by decide +kernel
theorem dX3_firstWrong_42 : decode cX3_firstWrong 42 = .ok (.iload_n 3, 1) := by decide +kernel
theorem dX3_firstWrong_43 : decode cX3_firstWrong 43 = .ok (.aload_n 2, 1) := by decide +kernel
theorem dX3_firstWrong_44 : decode cX3_firstWrong 44 = .ok (.invokevirtual 34, 3) := by decide +kernel
theorem dX3_firstWrong_47 : decode cX3_firstWrong 47 = .ok (.if_icmp .ge 27, 3) := by decide +kernel
theorem dX3_firstWrong_50 : decode cX3_firstWrong 50 = .ok (.aload_n 0, 1) := by decide +kernel
theorem dX3_firstWrong_51 : decode cX3_firstWrong 51 = .ok (.iload_n 1, 1) := by decide +kernel
theorem dX3_firstWrong_52 : decode cX3_firstWrong 52 = .ok (.aload_n 2, 1) := by decide +kernel
theorem dX3_firstWrong_53 : decode cX3_firstWrong 53 = .ok (.iload_n 3, 1) := by decide +kernel
theorem dX3_firstWrong_54 : decode cX3_firstWrong 54 = .ok (.invokevirtual 42, 3) := by decide +kernel
theorem dX3_firstWrong_57 : decode cX3_firstWrong 57 = .ok (.invokevirtual 46, 3) := by decide +kernel
theorem dX3_firstWrong_60 : decode cX3_firstWrong 60 = .ok (.ifCond .ne 5, 3) := by decide +kernel
theorem dX3_firstWrong_63 : decode cX3_firstWrong 63 = .ok (.iload_n 1, 1) := by decide +kernel
theorem dX3_firstWrong_64 : decode cX3_firstWrong 64 = .ok (.ireturn, 1) := by decide +kernel
theorem dX3_firstWrong_65 : decode cX3_firstWrong 65 = .ok (.iinc 1 1, 3) := by decide +kernel
theorem dX3_firstWrong_68 : decode cX3_firstWrong 68 = .ok (.iinc 3 1, 3) := by decide +kernel
theorem dX3_firstWrong_71 : decode cX3_firstWrong 71 = .ok (.goto (-29), 3) := by decide +kernel
theorem dX3_firstWrong_74 : decode cX3_firstWrong 74 = .ok (.goto (-63), 3) := by decide +kernel
theorem dX3_firstWrong_77 : decode cX3_firstWrong 77 = .ok (.iconst (-1), 1) := by decide +kernel
theorem dX3_firstWrong_78 : decode cX3_firstWrong 78 = .ok (.ireturn, 1) := by decide +kernel
theorem dX3_behind_0 : decode cX3_behind 0 = .ok (.iload_n 0, 1) := by decide +kernel
theorem dX3_behind_1 : decode cX3_behind 1 = .ok (.tableswitch 105 100 117 #[102, 105, 105, 99, 105, 90, 105, 105, 105, 105, 105, 105, 87, 105, 93, 105, 105, 96], 87) := by decide +kernel
theorem dX3_behind_88 : decode cX3_behind 88 = .ok (.ldc 50, 2) := by decide +kernel
theorem dX3_behind_90 : decode cX3_behind 90 = .ok (.areturn, 1) := by decide +kernel
theorem dX3_behind_91 : decode cX3_behind 91 = .ok (.ldc 52, 2) := by decide +kernel
theorem dX3_behind_93 : decode cX3_behind 93 = .ok (.areturn, 1) := by decide +kernel
theorem dX3_behind_94 : decode cX3_behind 94 = .ok (.ldc 54, 2) := by decide +kernel
theorem dX3_behind_96 : decode cX3_behind 96 = .ok (.areturn, 1) := by decide +kernel
theorem dX3_behind_97 : decode cX3_behind 97 = .ok (.ldc 52, 2) := by decide +kernel
theorem dX3_behind_99 : decode cX3_behind 99 = .ok (.areturn, 1) := by decide +kernel
theorem dX3_behind_100 : decode cX3_behind 100 = .ok (.ldc 52, 2) := by decide +kernel
theorem dX3_behind_102 : decode cX3_behind 102 = .ok (.areturn, 1) := by decide +kernel
theorem dX3_behind_103 : decode cX3_behind 103 = .ok (.ldc 56, 2) := by decide +kernel
theorem dX3_behind_105 : decode cX3_behind 105 = .ok (.areturn, 1) := by decide +kernel
theorem dX3_behind_106 : decode cX3_behind 106 = .ok (.ldc 58, 2) := by decide +kernel
theorem dX3_behind_108 : decode cX3_behind 108 = .ok (.areturn, 1) := by decide +kernel
set_option maxRecDepth 20000 in
theorem ggX3_fits_X3_letterAt : GoodIn wsX3_fits wsX3_letterAt := goodIn_r _ [5, 6, 7, 101, 102] (by decide +kernel) (by decide +kernel)
set_option maxRecDepth 20000 in
theorem gX3_fits_X3_letterAt : GoodIn wsX3_fits (wsV RX3 19 RX3 yX3_letterAt wsX3_letterAt) := goodIn_app (goodIn_of _ (by decide +kernel)) ggX3_fits_X3_letterAt
set_option maxRecDepth 20000 in
theorem ggX3_fits_X3_kindAt : GoodIn wsX3_fits wsX3_kindAt := goodIn_r _ [11, 1, 2, 3, 4, 5, 6, 7, 12, 13, 14, 15, 16, 17, 18, 19, 20, 21, 22, 23, 24, 25, 26, 27, 28, 29, 30, 31, 32, 33, 34, 35, 36, 37, 38, 39, 40, 41, 42, 43, 44, 45, 46, 47, 48, 49, 50, 51, 52, 53, 54, 55, 56, 57, 58, 59, 60, 61, 62, 63, 64, 65, 66, 67, 68, 69, 70, 71, 72, 73, 74, 75, 76, 77, 78, 79, 80, 81, 82, 83, 84, 85, 86, 87, 88, 89, 90, 91, 92, 93, 94, 95, 96, 97, 98, 99, 100, 101, 102] (by decide +kernel) (by decide +kernel)
set_option maxRecDepth 20000 in
theorem gX3_fits_X3_kindAt : GoodIn wsX3_fits (wsV RX3 60 RX3 yX3_kindAt wsX3_kindAt) := goodIn_app (goodIn_of _ (by decide +kernel)) ggX3_fits_X3_kindAt
theorem dX3_fits_0 : decode cX3_fits 0 = .ok (.aload_n 0, 1) := by decide +kernel
theorem dX3_fits_1 : decode cX3_fits 1 = .ok (.iload_n 1, 1) := by decide +kernel
theorem dX3_fits_2 : decode cX3_fits 2 = .ok (.invokevirtual 19, 3) := by decide +kernel
theorem dX3_fits_5 : decode cX3_fits 5 = .ok (.istore_n 3, 1) := by decide +kernel
theorem dX3_fits_6 : decode cX3_fits 6 = .ok (.iload_n 2, 1) := by decide +kernel
theorem dX3_fits_7 : decode cX3_fits 7 = .ok (.lookupswitch 57 #[(48, 39), (107, 25)], 25) := by decide +kernel
theorem dX3_fits_32 : decode cX3_fits 32 = .ok (.aload_n 0, 1) := by decide +kernel
theorem dX3_fits_33 : decode cX3_fits 33 = .ok (.iload_n 1, 1) := by decide +kernel
theorem dX3_fits_34 : decode cX3_fits 34 = .ok (.invokevirtual 60, 3) := by decide +kernel
theorem dX3_fits_37 : decode cX3_fits 37 = .ok (.ifCond .lt 7, 3) := by decide +kernel
theorem dX3_fits_40 : decode cX3_fits 40 = .ok (.iconst 1, 1) := by decide +kernel
theorem dX3_fits_41 : decode cX3_fits 41 = .ok (.goto 4, 3) := by decide +kernel
theorem dX3_fits_44 : decode cX3_fits 44 = .ok (.iconst 0, 1) := by decide +kernel
theorem dX3_fits_45 : decode cX3_fits 45 = .ok (.ireturn, 1) := by decide +kernel
theorem dX3_fits_46 : decode cX3_fits 46 = .ok (.iload_n 3, 1) := by decide +kernel
theorem dX3_fits_47 : decode cX3_fits 47 = .ok (.bipush 48, 2) := by decide +kernel
theorem dX3_fits_49 : decode cX3_fits 49 = .ok (.if_icmp .lt 13, 3) := by decide +kernel
theorem dX3_fits_52 : decode cX3_fits 52 = .ok (.iload_n 3, 1) := by decide +kernel
theorem dX3_fits_53 : decode cX3_fits 53 = .ok (.bipush 57, 2) := by decide +kernel
theorem dX3_fits_55 : decode cX3_fits 55 = .ok (.if_icmp .gt 7, 3) := by decide +kernel
theorem dX3_fits_58 : decode cX3_fits 58 = .ok (.iconst 1, 1) := by decide +kernel
theorem dX3_fits_59 : decode cX3_fits 59 = .ok (.goto 4, 3) := by decide +kernel
theorem dX3_fits_62 : decode cX3_fits 62 = .ok (.iconst 0, 1) := by decide +kernel
theorem dX3_fits_63 : decode cX3_fits 63 = .ok (.ireturn, 1) := by decide +kernel
theorem dX3_fits_64 : decode cX3_fits 64 = .ok (.iload_n 3, 1) := by decide +kernel
theorem dX3_fits_65 : decode cX3_fits 65 = .ok (.iload_n 2, 1) := by decide +kernel
theorem dX3_fits_66 : decode cX3_fits 66 = .ok (.if_icmp .ne 7, 3) := by decide +kernel
theorem dX3_fits_69 : decode cX3_fits 69 = .ok (.iconst 1, 1) := by decide +kernel
theorem dX3_fits_70 : decode cX3_fits 70 = .ok (.goto 4, 3) := by decide +kernel
theorem dX3_fits_73 : decode cX3_fits 73 = .ok (.iconst 0, 1) := by decide +kernel
theorem dX3_fits_74 : decode cX3_fits 74 = .ok (.ireturn, 1) := by decide +kernel
set_option maxRecDepth 20000 in
theorem ggX4_init_X1_init : GoodIn wsX4_init wsX1_init := goodIn_r _ [25, 26, 2, 3, 27, 28, 11, 12, 29, 30, 31, 32, 37, 38, 39, 40, 41, 42, 54, 55, 56, 57, 58, 59, 60, 61] (by decide +kernel) (by decide +kernel)
set_option maxRecDepth 20000 in
theorem gX4_init_X1_init : GoodIn wsX4_init (wsX1_init) := ggX4_init_X1_init
set_option maxRecDepth 20000 in
theorem ggX4_init_X2_init : GoodIn wsX4_init wsX2_init := goodIn_r _ [31, 32, 2, 3] (by decide +kernel) (by decide +kernel)
set_option maxRecDepth 20000 in
theorem gX4_init_X2_init_n24 : GoodIn wsX4_init (wsX2_init) := ggX4_init_X2_init
set_option maxRecDepth 20000 in
theorem ggX4_init_X3_init : GoodIn wsX4_init wsX3_init := goodIn_r _ [34, 35, 2, 3, 18, 36, 62, 63] (by decide +kernel) (by decide +kernel)
set_option maxRecDepth 20000 in
theorem gX4_init_X3_init_n31 : GoodIn wsX4_init (wsX3_init) := ggX4_init_X3_init
theorem dX4_init_0 : decode cX4_init 0 = .ok (.aload_n 0, 1) := by decide +kernel
theorem dX4_init_1 : decode cX4_init 1 = .ok (.invokespecial 1, 3) := by decide +kernel
theorem dX4_init_4 : decode cX4_init 4 = .ok (.aload_n 0, 1) := by decide +kernel
theorem dX4_init_5 : decode cX4_init 5 = .ok (.new 7, 3) := by decide +kernel
theorem dX4_init_8 : decode cX4_init 8 = .ok (.dup, 1) := by decide +kernel
theorem dX4_init_9 : decode cX4_init 9 = .ok (.invokespecial 9, 3) := by decide +kernel
theorem dX4_init_12 : decode cX4_init 12 = .ok (.putfield 10, 3) := by decide +kernel
theorem dX4_init_15 : decode cX4_init 15 = .ok (.aload_n 0, 1) := by decide +kernel
theorem dX4_init_16 : decode cX4_init 16 = .ok (.new 7, 3) := by decide +kernel
theorem dX4_init_19 : decode cX4_init 19 = .ok (.dup, 1) := by decide +kernel
theorem dX4_init_20 : decode cX4_init 20 = .ok (.invokespecial 9, 3) := by decide +kernel
theorem dX4_init_23 : decode cX4_init 23 = .ok (.putfield 16, 3) := by decide +kernel
theorem dX4_init_26 : decode cX4_init 26 = .ok (.aload_n 0, 1) := by decide +kernel
theorem dX4_init_27 : decode cX4_init 27 = .ok (.new 7, 3) := by decide +kernel
theorem dX4_init_30 : decode cX4_init 30 = .ok (.dup, 1) := by decide +kernel
theorem dX4_init_31 : decode cX4_init 31 = .ok (.invokespecial 9, 3) := by decide +kernel
theorem dX4_init_34 : decode cX4_init 34 = .ok (.putfield 19, 3) := by decide +kernel
theorem dX4_init_37 : decode cX4_init 37 = .ok (.aload_n 0, 1) := by decide +kernel
theorem dX4_init_38 : decode cX4_init 38 = .ok (.new 22, 3) := by decide +kernel
theorem dX4_init_41 : decode cX4_init 41 = .ok (.dup, 1) := by decide +kernel
theorem dX4_init_42 : decode cX4_init 42 = .ok (.invokespecial 24, 3) := by decide +kernel
theorem dX4_init_45 : decode cX4_init 45 = .ok (.putfield 25, 3) := by decide +kernel
theorem dX4_init_48 : decode cX4_init 48 = .ok (.aload_n 0, 1) := by decide +kernel
theorem dX4_init_49 : decode cX4_init 49 = .ok (.new 29, 3) := by decide +kernel
theorem dX4_init_52 : decode cX4_init 52 = .ok (.dup, 1) := by decide +kernel
theorem dX4_init_53 : decode cX4_init 53 = .ok (.invokespecial 31, 3) := by decide +kernel
theorem dX4_init_56 : decode cX4_init 56 = .ok (.putfield 32, 3) := by decide +kernel
theorem dX4_init_59 : decode cX4_init 59 = .ok (.aload_n 0, 1) := by decide +kernel
theorem dX4_init_60 : decode cX4_init 60 = .ok (.bipush 16, 2) := by decide +kernel
theorem dX4_init_62 : decode cX4_init 62 = .ok (.newarray .int, 2) := by decide +kernel
theorem dX4_init_64 : decode cX4_init 64 = .ok (.putfield 36, 3) := by decide +kernel
theorem dX4_init_67 : decode cX4_init 67 = .ok (.aload_n 0, 1) := by decide +kernel
theorem dX4_init_68 : decode cX4_init 68 = .ok (.bipush 7, 2) := by decide +kernel
theorem dX4_init_70 : decode cX4_init 70 = .ok (.newarray .int, 2) := by decide +kernel
theorem dX4_init_72 : decode cX4_init 72 = .ok (.putfield 40, 3) := by decide +kernel
theorem dX4_init_75 : decode cX4_init 75 = .ok (.aload_n 0, 1) := by decide +kernel
theorem dX4_init_76 : decode cX4_init 76 = .ok (.bipush 8, 2) := by decide +kernel
theorem dX4_init_78 : decode cX4_init 78 = .ok (.newarray .int, 2) := by decide +kernel
theorem dX4_init_80 : decode cX4_init 80 = .ok (.putfield 43, 3) := by decide +kernel
theorem dX4_init_83 : decode cX4_init 83 = .ok (.aload_n 0, 1) := by decide +kernel
theorem dX4_init_84 : decode cX4_init 84 = .ok (.bipush 8, 2) := by decide +kernel
theorem dX4_init_86 : decode cX4_init 86 = .ok (.newarray .int, 2) := by decide +kernel
theorem dX4_init_88 : decode cX4_init 88 = .ok (.putfield 46, 3) := by decide +kernel
theorem dX4_init_91 : decode cX4_init 91 = .ok (.return_, 1) := by decide +kernel
set_option maxRecDepth 20000 in
theorem ggX4_letter_X4_outside : GoodIn wsX4_letter wsX4_outside := goodIn_r _ [6] (by decide +kernel) (by decide +kernel)
set_option maxRecDepth 20000 in
theorem gX4_letter_X4_outside : GoodIn wsX4_letter (va_wsS RX4 49 yX4_outside wsX4_outside) := goodIn_app (goodIn_of _ (by decide +kernel)) ggX4_letter_X4_outside
set_option maxRecDepth 20000 in
theorem ggX4_letter_X4_refused : GoodIn wsX4_letter wsX4_refused := goodIn_r _ [10, 11, 19, 20, 21, 22, 23, 24, 25, 26, 27, 28, 29] (by decide +kernel) (by decide +kernel)
set_option maxRecDepth 20000 in
theorem gX4_letter_X4_refused : GoodIn wsX4_letter (wsV RX4 57 RX4 yX4_refused wsX4_refused) := goodIn_app (goodIn_of _ (by decide +kernel)) ggX4_letter_X4_refused
set_option maxRecDepth 20000 in
theorem ggX4_letter_X3_add : GoodIn wsX4_letter wsX3_add := goodIn_r _ [16, 17, 18, 30, 31] (by decide +kernel) (by decide +kernel)
set_option maxRecDepth 20000 in
theorem gX4_letter_X3_add : GoodIn wsX4_letter (wsV RX4 61 RX3 yX3_add wsX3_add) := goodIn_app (goodIn_of _ (by decide +kernel)) ggX4_letter_X3_add
theorem dX4_letter_0 : decode cX4_letter 0 = .ok (.iload_n 1, 1) := by decide +kernel
theorem dX4_letter_1 : decode cX4_letter 1 = .ok (.iconst 0, 1) := by decide +kernel
theorem dX4_letter_2 : decode cX4_letter 2 = .ok (.sipush 255, 3) := by decide +kernel
theorem dX4_letter_5 : decode cX4_letter 5 = .ok (.invokestatic 49, 3) := by decide +kernel
theorem dX4_letter_8 : decode cX4_letter 8 = .ok (.istore_n 2, 1) := by decide +kernel
theorem dX4_letter_9 : decode cX4_letter 9 = .ok (.iload_n 2, 1) := by decide +kernel
theorem dX4_letter_10 : decode cX4_letter 10 = .ok (.ifCond .ne 18, 3) := by decide +kernel
theorem dX4_letter_13 : decode cX4_letter 13 = .ok (.aload_n 0, 1) := by decide +kernel
theorem dX4_letter_14 : decode cX4_letter 14 = .ok (.getfield 32, 3) := by decide +kernel
theorem dX4_letter_17 : decode cX4_letter 17 = .ok (.getfield 53, 3) := by decide +kernel
theorem dX4_letter_20 : decode cX4_letter 20 = .ok (.bipush 96, 2) := by decide +kernel
theorem dX4_letter_22 : decode cX4_letter 22 = .ok (.if_icmp .lt 6, 3) := by decide +kernel
theorem dX4_letter_25 : decode cX4_letter 25 = .ok (.bipush (-6), 2) := by decide +kernel
theorem dX4_letter_27 : decode cX4_letter 27 = .ok (.istore_n 2, 1) := by decide +kernel
theorem dX4_letter_28 : decode cX4_letter 28 = .ok (.iload_n 2, 1) := by decide +kernel
theorem dX4_letter_29 : decode cX4_letter 29 = .ok (.ifCond .eq 9, 3) := by decide +kernel
theorem dX4_letter_32 : decode cX4_letter 32 = .ok (.aload_n 0, 1) := by decide +kernel
theorem dX4_letter_33 : decode cX4_letter 33 = .ok (.iload_n 2, 1) := by decide +kernel
theorem dX4_letter_34 : decode cX4_letter 34 = .ok (.invokevirtual 57, 3) := by decide +kernel
theorem dX4_letter_37 : decode cX4_letter 37 = .ok (.ireturn, 1) := by decide +kernel
theorem dX4_letter_38 : decode cX4_letter 38 = .ok (.aload_n 0, 1) := by decide +kernel
theorem dX4_letter_39 : decode cX4_letter 39 = .ok (.getfield 32, 3) := by decide +kernel
theorem dX4_letter_42 : decode cX4_letter 42 = .ok (.iload_n 1, 1) := by decide +kernel
theorem dX4_letter_43 : decode cX4_letter 43 = .ok (.invokevirtual 61, 3) := by decide +kernel
theorem dX4_letter_46 : decode cX4_letter 46 = .ok (.aload_n 0, 1) := by decide +kernel
theorem dX4_letter_47 : decode cX4_letter 47 = .ok (.getfield 32, 3) := by decide +kernel
theorem dX4_letter_50 : decode cX4_letter 50 = .ok (.getfield 53, 3) := by decide +kernel
theorem dX4_letter_53 : decode cX4_letter 53 = .ok (.ireturn, 1) := by decide +kernel
set_option maxRecDepth 20000 in
theorem ggX4_counter_X4_read : GoodIn wsX4_counter wsX4_read := goodIn_r _ [7, 1, 8, 9, 2, 10, 11, 12, 13, 14, 15, 16, 17, 18, 19, 20, 21, 22, 23, 24, 25, 26, 27, 28, 29, 30, 31, 32, 33, 34, 35, 36, 37, 38, 39, 40, 41, 42, 43, 44, 45, 46, 47, 48, 49, 50, 51, 52, 53, 54, 55, 56, 57, 58, 59, 60, 61, 62, 63, 64, 65, 66, 67, 68, 69, 70, 71, 72, 73, 74, 75, 76, 77, 78, 79, 80, 81, 82, 83, 84, 85, 86, 87, 88, 89, 90, 91, 92, 93, 94, 95, 96, 97, 98, 99, 100, 101, 102, 103, 104, 105, 106, 107, 108, 109, 110, 111, 112, 113, 114, 115, 116, 117, 118, 119, 120, 121, 122, 123, 124, 125, 126, 127, 128, 129, 130, 131, 132, 133, 134, 135, 136, 137, 138, 139, 140, 141, 142, 143, 144, 145, 146, 147, 148, 149, 150, 151, 152, 153, 154, 155, 156, 157, 158, 159, 160, 161, 162, 163, 164, 165, 166, 167, 168, 169, 170, 171, 172, 173, 174, 175, 176, 6, 177, 178, 179, 180, 181, 182, 183, 184, 185, 186, 187, 188, 189, 190, 191, 192, 193, 194, 195, 196, 197, 198, 199, 200, 201, 202, 203, 204, 205, 206, 207, 208, 209, 210, 211, 212, 213, 214, 215, 216, 217, 218, 219, 220, 221, 222, 223, 224, 225, 226, 227, 228, 229, 230, 231, 232, 233, 234, 235, 236, 237, 238, 239, 240, 241, 242, 243, 244, 245, 246, 247, 248, 249, 250, 251, 252, 253, 254, 255, 256, 257, 258, 259, 260, 261, 262, 263, 264, 265, 266, 267, 268, 269, 270] (by decide +kernel) (by decide +kernel)
set_option maxRecDepth 20000 in
theorem gX4_counter_X4_read : GoodIn wsX4_counter (wsV RX4 65 RX4 yX4_read wsX4_read) := goodIn_app (goodIn_of _ (by decide +kernel)) ggX4_counter_X4_read
theorem dX4_counter_0 : decode cX4_counter 0 = .ok (.aload_n 0, 1) := by decide +kernel
theorem dX4_counter_1 : decode cX4_counter 1 = .ok (.invokevirtual 65, 3) := by decide +kernel
theorem dX4_counter_4 : decode cX4_counter 4 = .ok (.istore_n 1, 1) := by decide +kernel
theorem dX4_counter_5 : decode cX4_counter 5 = .ok (.aload_n 0, 1) := by decide +kernel
theorem dX4_counter_6 : decode cX4_counter 6 = .ok (.getfield 32, 3) := by decide +kernel
theorem dX4_counter_9 : decode cX4_counter 9 = .ok (.iconst 0, 1) := by decide +kernel
theorem dX4_counter_10 : decode cX4_counter 10 = .ok (.putfield 53, 3) := by decide +kernel
theorem dX4_counter_13 : decode cX4_counter 13 = .ok (.iload_n 1, 1) := by decide +kernel
theorem dX4_counter_14 : decode cX4_counter 14 = .ok (.ireturn, 1) := by decide +kernel
set_option maxRecDepth 20000 in
theorem ggX4_person_X4_unknown : GoodIn wsX4_person wsX4_unknown := goodIn_r _ [12, 1, 13, 14, 15, 16, 17, 18, 58, 59, 60, 61, 62, 63, 64, 65, 66, 67, 68, 77, 78, 79, 80, 81, 82] (by decide +kernel) (by decide +kernel)
set_option maxRecDepth 20000 in
theorem gX4_person_X4_unknown : GoodIn wsX4_person (wsV RX4 69 RX4 yX4_unknown wsX4_unknown) := goodIn_app (goodIn_of _ (by decide +kernel)) ggX4_person_X4_unknown
set_option maxRecDepth 20000 in
theorem ggX4_person_X4_other : GoodIn wsX4_person wsX4_other := goodIn_r _ [21] (by decide +kernel) (by decide +kernel)
set_option maxRecDepth 20000 in
theorem gX4_person_X4_other : GoodIn wsX4_person (va_wsS RX4 72 yX4_other wsX4_other) := goodIn_app (goodIn_of _ (by decide +kernel)) ggX4_person_X4_other
set_option maxRecDepth 20000 in
theorem ggX4_person_X4_firstOf : GoodIn wsX4_person wsX4_firstOf := goodIn_r _ [24] (by decide +kernel) (by decide +kernel)
set_option maxRecDepth 20000 in
theorem gX4_person_X4_firstOf : GoodIn wsX4_person (va_wsS RX4 76 yX4_firstOf wsX4_firstOf) := goodIn_app (goodIn_of _ (by decide +kernel)) ggX4_person_X4_firstOf
set_option maxRecDepth 20000 in
theorem ggX4_person_X4_refused : GoodIn wsX4_person wsX4_refused := goodIn_r _ [28, 29, 58, 59, 60, 61, 62, 63, 64, 65, 66, 67, 68] (by decide +kernel) (by decide +kernel)
set_option maxRecDepth 20000 in
theorem gX4_person_X4_refused : GoodIn wsX4_person (wsV RX4 57 RX4 yX4_refused wsX4_refused) := goodIn_app (goodIn_of _ (by decide +kernel)) ggX4_person_X4_refused
set_option maxRecDepth 20000 in
theorem ggX4_person_X1_at : GoodIn wsX4_person wsX1_at := goodIn_r _ [33, 34, 35, 77, 78, 79, 80, 81, 82] (by decide +kernel) (by decide +kernel)
set_option maxRecDepth 20000 in
theorem gX4_person_X1_at : GoodIn wsX4_person (wsV RX4 79 RX1 yX1_at wsX1_at) := goodIn_app (goodIn_of _ (by decide +kernel)) ggX4_person_X1_at
set_option maxRecDepth 20000 in
theorem ggX4_person_X2_needed : GoodIn wsX4_person wsX2_needed := goodIn_r _ [40, 41, 42, 43, 44, 45, 46, 69, 70, 71, 72, 73, 74, 75, 76] (by decide +kernel) (by decide +kernel)
set_option maxRecDepth 20000 in
theorem gX4_person_X2_needed : GoodIn wsX4_person (wsV RX4 101 RX2 yX2_needed wsX2_needed) := goodIn_app (goodIn_of _ (by decide +kernel)) ggX4_person_X2_needed
set_option maxRecDepth 20000 in
theorem ggX4_person_X2_lacking : GoodIn wsX4_person wsX2_lacking := goodIn_r _ [50, 51, 52, 53, 54, 55, 56, 57, 37, 38, 39, 40, 41, 42, 43, 44, 45, 46, 69, 70, 71, 72, 73, 74, 75, 76] (by decide +kernel) (by decide +kernel)
set_option maxRecDepth 20000 in
theorem gX4_person_X2_lacking : GoodIn wsX4_person (wsV RX4 104 RX2 yX2_lacking wsX2_lacking) := goodIn_app (goodIn_of _ (by decide +kernel)) ggX4_person_X2_lacking
theorem dX4_person_0 : decode cX4_person 0 = .ok (.aload_n 0, 1) := by decide +kernel
theorem dX4_person_1 : decode cX4_person 1 = .ok (.iload_n 1, 1) := by decide +kernel
theorem dX4_person_2 : decode cX4_person 2 = .ok (.invokevirtual 69, 3) := by decide +kernel
theorem dX4_person_5 : decode cX4_person 5 = .ok (.iload_n 2, 1) := by decide +kernel
theorem dX4_person_6 : decode cX4_person 6 = .ok (.bipush 7, 2) := by decide +kernel
theorem dX4_person_8 : decode cX4_person 8 = .ok (.invokestatic 72, 3) := by decide +kernel
theorem dX4_person_11 : decode cX4_person 11 = .ok (.iconst 0, 1) := by decide +kernel
theorem dX4_person_12 : decode cX4_person 12 = .ok (.invokestatic 76, 3) := by decide +kernel
theorem dX4_person_15 : decode cX4_person 15 = .ok (.istore_n 3, 1) := by decide +kernel
theorem dX4_person_16 : decode cX4_person 16 = .ok (.iload_n 3, 1) := by decide +kernel
theorem dX4_person_17 : decode cX4_person 17 = .ok (.ifCond .eq 9, 3) := by decide +kernel
theorem dX4_person_20 : decode cX4_person 20 = .ok (.aload_n 0, 1) := by decide +kernel
theorem dX4_person_21 : decode cX4_person 21 = .ok (.iload_n 3, 1) := by decide +kernel
theorem dX4_person_22 : decode cX4_person 22 = .ok (.invokevirtual 57, 3) := by decide +kernel
theorem dX4_person_25 : decode cX4_person 25 = .ok (.ireturn, 1) := by decide +kernel
theorem dX4_person_26 : decode cX4_person 26 = .ok (.aload_n 0, 1) := by decide +kernel
theorem dX4_person_27 : decode cX4_person 27 = .ok (.getfield 10, 3) := by decide +kernel
theorem dX4_person_30 : decode cX4_person 30 = .ok (.iload_n 1, 1) := by decide +kernel
theorem dX4_person_31 : decode cX4_person 31 = .ok (.invokevirtual 79, 3) := by decide +kernel
theorem dX4_person_34 : decode cX4_person 34 = .ok (.astore 4, 2) := by decide +kernel
theorem dX4_person_36 : decode cX4_person 36 = .ok (.iload_n 2, 1) := by decide +kernel
theorem dX4_person_37 : decode cX4_person 37 = .ok (.tableswitch 85 0 6 #[43, 49, 55, 61, 67, 73, 79], 43) := by decide +kernel
theorem dX4_person_80 : decode cX4_person 80 = .ok (.aload 4, 2) := by decide +kernel
theorem dX4_person_82 : decode cX4_person 82 = .ok (.getfield 83, 3) := by decide +kernel
theorem dX4_person_85 : decode cX4_person 85 = .ok (.ireturn, 1) := by decide +kernel
theorem dX4_person_86 : decode cX4_person 86 = .ok (.aload 4, 2) := by decide +kernel
theorem dX4_person_88 : decode cX4_person 88 = .ok (.getfield 86, 3) := by decide +kernel
theorem dX4_person_91 : decode cX4_person 91 = .ok (.ireturn, 1) := by decide +kernel
theorem dX4_person_92 : decode cX4_person 92 = .ok (.aload 4, 2) := by decide +kernel
theorem dX4_person_94 : decode cX4_person 94 = .ok (.getfield 89, 3) := by decide +kernel
theorem dX4_person_97 : decode cX4_person 97 = .ok (.ireturn, 1) := by decide +kernel
theorem dX4_person_98 : decode cX4_person 98 = .ok (.aload 4, 2) := by decide +kernel
theorem dX4_person_100 : decode cX4_person 100 = .ok (.getfield 92, 3) := by decide +kernel
theorem dX4_person_103 : decode cX4_person 103 = .ok (.ireturn, 1) := by decide +kernel
theorem dX4_person_104 : decode cX4_person 104 = .ok (.aload 4, 2) := by decide +kernel
theorem dX4_person_106 : decode cX4_person 106 = .ok (.getfield 95, 3) := by decide +kernel
theorem dX4_person_109 : decode cX4_person 109 = .ok (.ireturn, 1) := by decide +kernel
theorem dX4_person_110 : decode cX4_person 110 = .ok (.aload 4, 2) := by decide +kernel
theorem dX4_person_112 : decode cX4_person 112 = .ok (.getfield 98, 3) := by decide +kernel
theorem dX4_person_115 : decode cX4_person 115 = .ok (.ireturn, 1) := by decide +kernel
theorem dX4_person_116 : decode cX4_person 116 = .ok (.aload 4, 2) := by decide +kernel
theorem dX4_person_118 : decode cX4_person 118 = .ok (.invokevirtual 101, 3) := by decide +kernel
theorem dX4_person_121 : decode cX4_person 121 = .ok (.ireturn, 1) := by decide +kernel
theorem dX4_person_122 : decode cX4_person 122 = .ok (.aload 4, 2) := by decide +kernel
theorem dX4_person_124 : decode cX4_person 124 = .ok (.invokevirtual 104, 3) := by decide +kernel
theorem dX4_person_127 : decode cX4_person 127 = .ok (.ireturn, 1) := by decide +kernel
set_option maxRecDepth 20000 in
theorem ggX4_issues_X4_unknown : GoodIn wsX4_issues wsX4_unknown := goodIn_r _ [7, 1, 8, 9, 10, 11, 12, 13, 38, 39, 40, 41, 42, 43, 44, 45, 46, 47, 48, 49, 50, 51, 52, 53, 54] (by decide +kernel) (by decide +kernel)
set_option maxRecDepth 20000 in
theorem gX4_issues_X4_unknown : GoodIn wsX4_issues (wsV RX4 69 RX4 yX4_unknown wsX4_unknown) := goodIn_app (goodIn_of _ (by decide +kernel)) ggX4_issues_X4_unknown
set_option maxRecDepth 20000 in
theorem ggX4_issues_X4_outside : GoodIn wsX4_issues wsX4_outside := goodIn_r _ [16] (by decide +kernel) (by decide +kernel)
set_option maxRecDepth 20000 in
theorem gX4_issues_X4_outside : GoodIn wsX4_issues (va_wsS RX4 49 yX4_outside wsX4_outside) := goodIn_app (goodIn_of _ (by decide +kernel)) ggX4_issues_X4_outside
set_option maxRecDepth 20000 in
theorem ggX4_issues_X4_firstOf : GoodIn wsX4_issues wsX4_firstOf := goodIn_r _ [19] (by decide +kernel) (by decide +kernel)
set_option maxRecDepth 20000 in
theorem gX4_issues_X4_firstOf : GoodIn wsX4_issues (va_wsS RX4 76 yX4_firstOf wsX4_firstOf) := goodIn_app (goodIn_of _ (by decide +kernel)) ggX4_issues_X4_firstOf
set_option maxRecDepth 20000 in
theorem ggX4_issues_X4_refused : GoodIn wsX4_issues wsX4_refused := goodIn_r _ [23, 24, 38, 39, 40, 41, 42, 43, 44, 45, 46, 47, 48] (by decide +kernel) (by decide +kernel)
set_option maxRecDepth 20000 in
theorem gX4_issues_X4_refused : GoodIn wsX4_issues (wsV RX4 57 RX4 yX4_refused wsX4_refused) := goodIn_app (goodIn_of _ (by decide +kernel)) ggX4_issues_X4_refused
set_option maxRecDepth 20000 in
theorem ggX4_issues_X1_issue : GoodIn wsX4_issues wsX1_issue := goodIn_r _ [28, 29, 30, 31, 9, 10, 11, 12, 13, 32, 33, 34, 35, 36, 37, 49, 50, 51, 52, 53, 54, 55, 56, 57, 58, 59, 60, 61, 62] (by decide +kernel) (by decide +kernel)
set_option maxRecDepth 20000 in
theorem gX4_issues_X1_issue : GoodIn wsX4_issues (wsV RX4 107 RX1 yX1_issue wsX1_issue) := goodIn_app (goodIn_of _ (by decide +kernel)) ggX4_issues_X1_issue
theorem dX4_issues_0 : decode cX4_issues 0 = .ok (.aload_n 0, 1) := by decide +kernel
theorem dX4_issues_1 : decode cX4_issues 1 = .ok (.iload_n 1, 1) := by decide +kernel
theorem dX4_issues_2 : decode cX4_issues 2 = .ok (.invokevirtual 69, 3) := by decide +kernel
theorem dX4_issues_5 : decode cX4_issues 5 = .ok (.iload_n 2, 1) := by decide +kernel
theorem dX4_issues_6 : decode cX4_issues 6 = .ok (.iconst 0, 1) := by decide +kernel
theorem dX4_issues_7 : decode cX4_issues 7 = .ok (.bipush 99, 2) := by decide +kernel
theorem dX4_issues_9 : decode cX4_issues 9 = .ok (.invokestatic 49, 3) := by decide +kernel
theorem dX4_issues_12 : decode cX4_issues 12 = .ok (.iconst 0, 1) := by decide +kernel
theorem dX4_issues_13 : decode cX4_issues 13 = .ok (.invokestatic 76, 3) := by decide +kernel
theorem dX4_issues_16 : decode cX4_issues 16 = .ok (.istore_n 3, 1) := by decide +kernel
theorem dX4_issues_17 : decode cX4_issues 17 = .ok (.iload_n 3, 1) := by decide +kernel
theorem dX4_issues_18 : decode cX4_issues 18 = .ok (.ifCond .eq 9, 3) := by decide +kernel
theorem dX4_issues_21 : decode cX4_issues 21 = .ok (.aload_n 0, 1) := by decide +kernel
theorem dX4_issues_22 : decode cX4_issues 22 = .ok (.iload_n 3, 1) := by decide +kernel
theorem dX4_issues_23 : decode cX4_issues 23 = .ok (.invokevirtual 57, 3) := by decide +kernel
theorem dX4_issues_26 : decode cX4_issues 26 = .ok (.ireturn, 1) := by decide +kernel
theorem dX4_issues_27 : decode cX4_issues 27 = .ok (.aload_n 0, 1) := by decide +kernel
theorem dX4_issues_28 : decode cX4_issues 28 = .ok (.getfield 10, 3) := by decide +kernel
theorem dX4_issues_31 : decode cX4_issues 31 = .ok (.iload_n 1, 1) := by decide +kernel
theorem dX4_issues_32 : decode cX4_issues 32 = .ok (.iload_n 2, 1) := by decide +kernel
theorem dX4_issues_33 : decode cX4_issues 33 = .ok (.invokevirtual 107, 3) := by decide +kernel
theorem dX4_issues_36 : decode cX4_issues 36 = .ok (.ifCond .ne 10, 3) := by decide +kernel
theorem dX4_issues_39 : decode cX4_issues 39 = .ok (.aload_n 0, 1) := by decide +kernel
theorem dX4_issues_40 : decode cX4_issues 40 = .ok (.bipush (-3), 2) := by decide +kernel
theorem dX4_issues_42 : decode cX4_issues 42 = .ok (.invokevirtual 57, 3) := by decide +kernel
theorem dX4_issues_45 : decode cX4_issues 45 = .ok (.ireturn, 1) := by decide +kernel
theorem dX4_issues_46 : decode cX4_issues 46 = .ok (.aload_n 0, 1) := by decide +kernel
theorem dX4_issues_47 : decode cX4_issues 47 = .ok (.getfield 10, 3) := by decide +kernel
theorem dX4_issues_50 : decode cX4_issues 50 = .ok (.getfield 111, 3) := by decide +kernel
theorem dX4_issues_53 : decode cX4_issues 53 = .ok (.ireturn, 1) := by decide +kernel
set_option maxRecDepth 20000 in
theorem ggX4_returns_X4_unknown : GoodIn wsX4_returns wsX4_unknown := goodIn_r _ [8, 1, 9, 10, 11, 12, 13, 14, 43, 44, 45, 46, 47, 48, 49, 50, 51, 52, 53, 62, 63, 64, 65, 66, 67] (by decide +kernel) (by decide +kernel)
set_option maxRecDepth 20000 in
theorem gX4_returns_X4_unknown : GoodIn wsX4_returns (wsV RX4 69 RX4 yX4_unknown wsX4_unknown) := goodIn_app (goodIn_of _ (by decide +kernel)) ggX4_returns_X4_unknown
set_option maxRecDepth 20000 in
theorem ggX4_returns_X1_at : GoodIn wsX4_returns wsX1_at := goodIn_r _ [18, 19, 20, 62, 63, 64, 65, 66, 67] (by decide +kernel) (by decide +kernel)
set_option maxRecDepth 20000 in
theorem gX4_returns_X1_at : GoodIn wsX4_returns (wsV RX4 79 RX1 yX1_at wsX1_at) := goodIn_app (goodIn_of _ (by decide +kernel)) ggX4_returns_X1_at
set_option maxRecDepth 20000 in
theorem ggX4_returns_X4_refused : GoodIn wsX4_returns wsX4_refused := goodIn_r _ [24, 25, 43, 44, 45, 46, 47, 48, 49, 50, 51, 52, 53] (by decide +kernel) (by decide +kernel)
set_option maxRecDepth 20000 in
theorem gX4_returns_X4_refused : GoodIn wsX4_returns (wsV RX4 57 RX4 yX4_refused wsX4_refused) := goodIn_app (goodIn_of _ (by decide +kernel)) ggX4_returns_X4_refused
set_option maxRecDepth 20000 in
theorem ggX4_returns_X1_handIn : GoodIn wsX4_returns wsX1_handIn := goodIn_r _ [29, 30, 31, 32, 33, 34, 35, 36, 10, 11, 12, 13, 14, 37, 16, 17, 18, 19, 20, 38, 39, 40, 41, 42, 62, 63, 64, 65, 66, 67, 54, 55, 56, 57, 58, 59, 60, 61] (by decide +kernel) (by decide +kernel)
set_option maxRecDepth 20000 in
theorem gX4_returns_X1_handIn : GoodIn wsX4_returns (wsV RX4 114 RX1 yX1_handIn wsX1_handIn) := goodIn_app (goodIn_of _ (by decide +kernel)) ggX4_returns_X1_handIn
theorem dX4_returns_0 : decode cX4_returns 0 = .ok (.aload_n 0, 1) := by decide +kernel
theorem dX4_returns_1 : decode cX4_returns 1 = .ok (.iload_n 1, 1) := by decide +kernel
theorem dX4_returns_2 : decode cX4_returns 2 = .ok (.invokevirtual 69, 3) := by decide +kernel
theorem dX4_returns_5 : decode cX4_returns 5 = .ok (.istore_n 2, 1) := by decide +kernel
theorem dX4_returns_6 : decode cX4_returns 6 = .ok (.iload_n 2, 1) := by decide +kernel
theorem dX4_returns_7 : decode cX4_returns 7 = .ok (.ifCond .ne 20, 3) := by decide +kernel
theorem dX4_returns_10 : decode cX4_returns 10 = .ok (.aload_n 0, 1) := by decide +kernel
theorem dX4_returns_11 : decode cX4_returns 11 = .ok (.getfield 10, 3) := by decide +kernel
theorem dX4_returns_14 : decode cX4_returns 14 = .ok (.iload_n 1, 1) := by decide +kernel
theorem dX4_returns_15 : decode cX4_returns 15 = .ok (.invokevirtual 79, 3) := by decide +kernel
theorem dX4_returns_18 : decode cX4_returns 18 = .ok (.getfield 89, 3) := by decide +kernel
theorem dX4_returns_21 : decode cX4_returns 21 = .ok (.ifCond .ne 6, 3) := by decide +kernel
theorem dX4_returns_24 : decode cX4_returns 24 = .ok (.bipush (-3), 2) := by decide +kernel
theorem dX4_returns_26 : decode cX4_returns 26 = .ok (.istore_n 2, 1) := by decide +kernel
theorem dX4_returns_27 : decode cX4_returns 27 = .ok (.iload_n 2, 1) := by decide +kernel
theorem dX4_returns_28 : decode cX4_returns 28 = .ok (.ifCond .eq 9, 3) := by decide +kernel
theorem dX4_returns_31 : decode cX4_returns 31 = .ok (.aload_n 0, 1) := by decide +kernel
theorem dX4_returns_32 : decode cX4_returns 32 = .ok (.iload_n 2, 1) := by decide +kernel
theorem dX4_returns_33 : decode cX4_returns 33 = .ok (.invokevirtual 57, 3) := by decide +kernel
theorem dX4_returns_36 : decode cX4_returns 36 = .ok (.ireturn, 1) := by decide +kernel
theorem dX4_returns_37 : decode cX4_returns 37 = .ok (.aload_n 0, 1) := by decide +kernel
theorem dX4_returns_38 : decode cX4_returns 38 = .ok (.getfield 10, 3) := by decide +kernel
theorem dX4_returns_41 : decode cX4_returns 41 = .ok (.iload_n 1, 1) := by decide +kernel
theorem dX4_returns_42 : decode cX4_returns 42 = .ok (.invokevirtual 114, 3) := by decide +kernel
theorem dX4_returns_45 : decode cX4_returns 45 = .ok (.pop, 1) := by decide +kernel
theorem dX4_returns_46 : decode cX4_returns 46 = .ok (.aload_n 0, 1) := by decide +kernel
theorem dX4_returns_47 : decode cX4_returns 47 = .ok (.getfield 10, 3) := by decide +kernel
theorem dX4_returns_50 : decode cX4_returns 50 = .ok (.getfield 111, 3) := by decide +kernel
theorem dX4_returns_53 : decode cX4_returns 53 = .ok (.ireturn, 1) := by decide +kernel
set_option maxRecDepth 20000 in
theorem ggX4_due_X4_unknown : GoodIn wsX4_due wsX4_unknown := goodIn_r _ [7, 1, 8, 9, 10, 11, 12, 13, 31, 32, 33, 34, 35, 36, 37, 38, 39, 40, 41, 50, 51, 52, 53, 54, 55] (by decide +kernel) (by decide +kernel)
set_option maxRecDepth 20000 in
theorem gX4_due_X4_unknown : GoodIn wsX4_due (wsV RX4 69 RX4 yX4_unknown wsX4_unknown) := goodIn_app (goodIn_of _ (by decide +kernel)) ggX4_due_X4_unknown
set_option maxRecDepth 20000 in
theorem ggX4_due_X4_outside : GoodIn wsX4_due wsX4_outside := goodIn_r _ [16] (by decide +kernel) (by decide +kernel)
set_option maxRecDepth 20000 in
theorem gX4_due_X4_outside : GoodIn wsX4_due (va_wsS RX4 49 yX4_outside wsX4_outside) := goodIn_app (goodIn_of _ (by decide +kernel)) ggX4_due_X4_outside
set_option maxRecDepth 20000 in
theorem ggX4_due_X4_firstOf : GoodIn wsX4_due wsX4_firstOf := goodIn_r _ [19] (by decide +kernel) (by decide +kernel)
set_option maxRecDepth 20000 in
theorem gX4_due_X4_firstOf : GoodIn wsX4_due (va_wsS RX4 76 yX4_firstOf wsX4_firstOf) := goodIn_app (goodIn_of _ (by decide +kernel)) ggX4_due_X4_firstOf
set_option maxRecDepth 20000 in
theorem ggX4_due_X4_refused : GoodIn wsX4_due wsX4_refused := goodIn_r _ [23, 24, 31, 32, 33, 34, 35, 36, 37, 38, 39, 40, 41] (by decide +kernel) (by decide +kernel)
set_option maxRecDepth 20000 in
theorem gX4_due_X4_refused : GoodIn wsX4_due (wsV RX4 57 RX4 yX4_refused wsX4_refused) := goodIn_app (goodIn_of _ (by decide +kernel)) ggX4_due_X4_refused
set_option maxRecDepth 20000 in
theorem ggX4_due_X1_at : GoodIn wsX4_due wsX1_at := goodIn_r _ [28, 29, 30, 50, 51, 52, 53, 54, 55] (by decide +kernel) (by decide +kernel)
set_option maxRecDepth 20000 in
theorem gX4_due_X1_at : GoodIn wsX4_due (wsV RX4 79 RX1 yX1_at wsX1_at) := goodIn_app (goodIn_of _ (by decide +kernel)) ggX4_due_X1_at
theorem dX4_due_0 : decode cX4_due 0 = .ok (.aload_n 0, 1) := by decide +kernel
theorem dX4_due_1 : decode cX4_due 1 = .ok (.iload_n 1, 1) := by decide +kernel
theorem dX4_due_2 : decode cX4_due 2 = .ok (.invokevirtual 69, 3) := by decide +kernel
theorem dX4_due_5 : decode cX4_due 5 = .ok (.iload_n 2, 1) := by decide +kernel
theorem dX4_due_6 : decode cX4_due 6 = .ok (.iconst 0, 1) := by decide +kernel
theorem dX4_due_7 : decode cX4_due 7 = .ok (.bipush 60, 2) := by decide +kernel
theorem dX4_due_9 : decode cX4_due 9 = .ok (.invokestatic 49, 3) := by decide +kernel
theorem dX4_due_12 : decode cX4_due 12 = .ok (.iconst 0, 1) := by decide +kernel
theorem dX4_due_13 : decode cX4_due 13 = .ok (.invokestatic 76, 3) := by decide +kernel
theorem dX4_due_16 : decode cX4_due 16 = .ok (.istore_n 3, 1) := by decide +kernel
theorem dX4_due_17 : decode cX4_due 17 = .ok (.iload_n 3, 1) := by decide +kernel
theorem dX4_due_18 : decode cX4_due 18 = .ok (.ifCond .eq 9, 3) := by decide +kernel
theorem dX4_due_21 : decode cX4_due 21 = .ok (.aload_n 0, 1) := by decide +kernel
theorem dX4_due_22 : decode cX4_due 22 = .ok (.iload_n 3, 1) := by decide +kernel
theorem dX4_due_23 : decode cX4_due 23 = .ok (.invokevirtual 57, 3) := by decide +kernel
theorem dX4_due_26 : decode cX4_due 26 = .ok (.ireturn, 1) := by decide +kernel
theorem dX4_due_27 : decode cX4_due 27 = .ok (.aload_n 0, 1) := by decide +kernel
theorem dX4_due_28 : decode cX4_due 28 = .ok (.getfield 10, 3) := by decide +kernel
theorem dX4_due_31 : decode cX4_due 31 = .ok (.iload_n 1, 1) := by decide +kernel
theorem dX4_due_32 : decode cX4_due 32 = .ok (.invokevirtual 79, 3) := by decide +kernel
theorem dX4_due_35 : decode cX4_due 35 = .ok (.astore 4, 2) := by decide +kernel
theorem dX4_due_37 : decode cX4_due 37 = .ok (.aload 4, 2) := by decide +kernel
theorem dX4_due_39 : decode cX4_due 39 = .ok (.getfield 92, 3) := by decide +kernel
theorem dX4_due_42 : decode cX4_due 42 = .ok (.istore 5, 2) := by decide +kernel
theorem dX4_due_44 : decode cX4_due 44 = .ok (.aload 4, 2) := by decide +kernel
theorem dX4_due_46 : decode cX4_due 46 = .ok (.iload_n 2, 1) := by decide +kernel
theorem dX4_due_47 : decode cX4_due 47 = .ok (.putfield 92, 3) := by decide +kernel
theorem dX4_due_50 : decode cX4_due 50 = .ok (.iload 5, 2) := by decide +kernel
theorem dX4_due_52 : decode cX4_due 52 = .ok (.ireturn, 1) := by decide +kernel
set_option maxRecDepth 20000 in
theorem ggX4_fills_X4_outside : GoodIn wsX4_fills wsX4_outside := goodIn_r _ [6] (by decide +kernel) (by decide +kernel)
set_option maxRecDepth 20000 in
theorem gX4_fills_X4_outside : GoodIn wsX4_fills (va_wsS RX4 49 yX4_outside wsX4_outside) := goodIn_app (goodIn_of _ (by decide +kernel)) ggX4_fills_X4_outside
set_option maxRecDepth 20000 in
theorem ggX4_fills_X4_refused : GoodIn wsX4_fills wsX4_refused := goodIn_r _ [10, 11, 18, 19, 20, 21, 22, 23, 24, 25, 26, 27, 28] (by decide +kernel) (by decide +kernel)
set_option maxRecDepth 20000 in
theorem gX4_fills_X4_refused : GoodIn wsX4_fills (wsV RX4 57 RX4 yX4_refused wsX4_refused) := goodIn_app (goodIn_of _ (by decide +kernel)) ggX4_fills_X4_refused
set_option maxRecDepth 20000 in
theorem ggX4_fills_X1_fill : GoodIn wsX4_fills wsX1_fill := goodIn_r _ [16, 17, 29, 30, 31, 32, 33, 34] (by decide +kernel) (by decide +kernel)
set_option maxRecDepth 20000 in
theorem gX4_fills_X1_fill : GoodIn wsX4_fills (wsV RX4 118 RX1 yX1_fill wsX1_fill) := goodIn_app (goodIn_of _ (by decide +kernel)) ggX4_fills_X1_fill
theorem dX4_fills_0 : decode cX4_fills 0 = .ok (.iload_n 1, 1) := by decide +kernel
theorem dX4_fills_1 : decode cX4_fills 1 = .ok (.iconst 0, 1) := by decide +kernel
theorem dX4_fills_2 : decode cX4_fills 2 = .ok (.bipush 99, 2) := by decide +kernel
theorem dX4_fills_4 : decode cX4_fills 4 = .ok (.invokestatic 49, 3) := by decide +kernel
theorem dX4_fills_7 : decode cX4_fills 7 = .ok (.istore_n 2, 1) := by decide +kernel
theorem dX4_fills_8 : decode cX4_fills 8 = .ok (.iload_n 2, 1) := by decide +kernel
theorem dX4_fills_9 : decode cX4_fills 9 = .ok (.ifCond .eq 9, 3) := by decide +kernel
theorem dX4_fills_12 : decode cX4_fills 12 = .ok (.aload_n 0, 1) := by decide +kernel
theorem dX4_fills_13 : decode cX4_fills 13 = .ok (.iload_n 2, 1) := by decide +kernel
theorem dX4_fills_14 : decode cX4_fills 14 = .ok (.invokevirtual 57, 3) := by decide +kernel
theorem dX4_fills_17 : decode cX4_fills 17 = .ok (.ireturn, 1) := by decide +kernel
theorem dX4_fills_18 : decode cX4_fills 18 = .ok (.aload_n 0, 1) := by decide +kernel
theorem dX4_fills_19 : decode cX4_fills 19 = .ok (.getfield 10, 3) := by decide +kernel
theorem dX4_fills_22 : decode cX4_fills 22 = .ok (.iload_n 1, 1) := by decide +kernel
theorem dX4_fills_23 : decode cX4_fills 23 = .ok (.invokevirtual 118, 3) := by decide +kernel
theorem dX4_fills_26 : decode cX4_fills 26 = .ok (.ifCond .ne 10, 3) := by decide +kernel
theorem dX4_fills_29 : decode cX4_fills 29 = .ok (.aload_n 0, 1) := by decide +kernel
theorem dX4_fills_30 : decode cX4_fills 30 = .ok (.bipush (-6), 2) := by decide +kernel
theorem dX4_fills_32 : decode cX4_fills 32 = .ok (.invokevirtual 57, 3) := by decide +kernel
theorem dX4_fills_35 : decode cX4_fills 35 = .ok (.ireturn, 1) := by decide +kernel
theorem dX4_fills_36 : decode cX4_fills 36 = .ok (.aload_n 0, 1) := by decide +kernel
theorem dX4_fills_37 : decode cX4_fills 37 = .ok (.getfield 10, 3) := by decide +kernel
theorem dX4_fills_40 : decode cX4_fills 40 = .ok (.getfield 111, 3) := by decide +kernel
theorem dX4_fills_43 : decode cX4_fills 43 = .ok (.ireturn, 1) := by decide +kernel
set_option maxRecDepth 20000 in
theorem ggX4_turn_X4_unknown : GoodIn wsX4_turn wsX4_unknown := goodIn_r _ [8, 1, 9, 10, 11, 12, 13, 14, 35, 36, 37, 38, 39, 40, 41, 42, 43, 44, 45, 54, 55, 56, 57, 58, 59] (by decide +kernel) (by decide +kernel)
set_option maxRecDepth 20000 in
theorem gX4_turn_X4_unknown : GoodIn wsX4_turn (wsV RX4 69 RX4 yX4_unknown wsX4_unknown) := goodIn_app (goodIn_of _ (by decide +kernel)) ggX4_turn_X4_unknown
set_option maxRecDepth 20000 in
theorem ggX4_turn_X4_other : GoodIn wsX4_turn wsX4_other := goodIn_r _ [17] (by decide +kernel) (by decide +kernel)
set_option maxRecDepth 20000 in
theorem gX4_turn_X4_other : GoodIn wsX4_turn (va_wsS RX4 72 yX4_other wsX4_other) := goodIn_app (goodIn_of _ (by decide +kernel)) ggX4_turn_X4_other
set_option maxRecDepth 20000 in
theorem ggX4_turn_X4_outside : GoodIn wsX4_turn wsX4_outside := goodIn_r _ [20] (by decide +kernel) (by decide +kernel)
set_option maxRecDepth 20000 in
theorem gX4_turn_X4_outside : GoodIn wsX4_turn (va_wsS RX4 49 yX4_outside wsX4_outside) := goodIn_app (goodIn_of _ (by decide +kernel)) ggX4_turn_X4_outside
set_option maxRecDepth 20000 in
theorem ggX4_turn_X4_firstOf : GoodIn wsX4_turn wsX4_firstOf := goodIn_r _ [23] (by decide +kernel) (by decide +kernel)
set_option maxRecDepth 20000 in
theorem gX4_turn_X4_firstOf : GoodIn wsX4_turn (va_wsS RX4 76 yX4_firstOf wsX4_firstOf) := goodIn_app (goodIn_of _ (by decide +kernel)) ggX4_turn_X4_firstOf
set_option maxRecDepth 20000 in
theorem ggX4_turn_X4_refused : GoodIn wsX4_turn wsX4_refused := goodIn_r _ [27, 28, 35, 36, 37, 38, 39, 40, 41, 42, 43, 44, 45] (by decide +kernel) (by decide +kernel)
set_option maxRecDepth 20000 in
theorem gX4_turn_X4_refused : GoodIn wsX4_turn (wsV RX4 57 RX4 yX4_refused wsX4_refused) := goodIn_app (goodIn_of _ (by decide +kernel)) ggX4_turn_X4_refused
set_option maxRecDepth 20000 in
theorem ggX4_turn_X1_at : GoodIn wsX4_turn wsX1_at := goodIn_r _ [32, 33, 34, 54, 55, 56, 57, 58, 59] (by decide +kernel) (by decide +kernel)
set_option maxRecDepth 20000 in
theorem gX4_turn_X1_at : GoodIn wsX4_turn (wsV RX4 79 RX1 yX1_at wsX1_at) := goodIn_app (goodIn_of _ (by decide +kernel)) ggX4_turn_X1_at
theorem dX4_turn_0 : decode cX4_turn 0 = .ok (.aload_n 0, 1) := by decide +kernel
theorem dX4_turn_1 : decode cX4_turn 1 = .ok (.iload_n 1, 1) := by decide +kernel
theorem dX4_turn_2 : decode cX4_turn 2 = .ok (.invokevirtual 69, 3) := by decide +kernel
theorem dX4_turn_5 : decode cX4_turn 5 = .ok (.iload_n 2, 1) := by decide +kernel
theorem dX4_turn_6 : decode cX4_turn 6 = .ok (.iconst 5, 1) := by decide +kernel
theorem dX4_turn_7 : decode cX4_turn 7 = .ok (.invokestatic 72, 3) := by decide +kernel
theorem dX4_turn_10 : decode cX4_turn 10 = .ok (.iload_n 3, 1) := by decide +kernel
theorem dX4_turn_11 : decode cX4_turn 11 = .ok (.iconst 0, 1) := by decide +kernel
theorem dX4_turn_12 : decode cX4_turn 12 = .ok (.bipush 9, 2) := by decide +kernel
theorem dX4_turn_14 : decode cX4_turn 14 = .ok (.invokestatic 49, 3) := by decide +kernel
theorem dX4_turn_17 : decode cX4_turn 17 = .ok (.invokestatic 76, 3) := by decide +kernel
theorem dX4_turn_20 : decode cX4_turn 20 = .ok (.istore 4, 2) := by decide +kernel
theorem dX4_turn_22 : decode cX4_turn 22 = .ok (.iload 4, 2) := by decide +kernel
theorem dX4_turn_24 : decode cX4_turn 24 = .ok (.ifCond .eq 10, 3) := by decide +kernel
theorem dX4_turn_27 : decode cX4_turn 27 = .ok (.aload_n 0, 1) := by decide +kernel
theorem dX4_turn_28 : decode cX4_turn 28 = .ok (.iload 4, 2) := by decide +kernel
theorem dX4_turn_30 : decode cX4_turn 30 = .ok (.invokevirtual 57, 3) := by decide +kernel
theorem dX4_turn_33 : decode cX4_turn 33 = .ok (.ireturn, 1) := by decide +kernel
theorem dX4_turn_34 : decode cX4_turn 34 = .ok (.aload_n 0, 1) := by decide +kernel
theorem dX4_turn_35 : decode cX4_turn 35 = .ok (.getfield 10, 3) := by decide +kernel
theorem dX4_turn_38 : decode cX4_turn 38 = .ok (.iload_n 1, 1) := by decide +kernel
theorem dX4_turn_39 : decode cX4_turn 39 = .ok (.invokevirtual 79, 3) := by decide +kernel
theorem dX4_turn_42 : decode cX4_turn 42 = .ok (.astore 5, 2) := by decide +kernel
theorem dX4_turn_44 : decode cX4_turn 44 = .ok (.bipush 10, 2) := by decide +kernel
theorem dX4_turn_46 : decode cX4_turn 46 = .ok (.aload 5, 2) := by decide +kernel
theorem dX4_turn_48 : decode cX4_turn 48 = .ok (.getfield 83, 3) := by decide +kernel
theorem dX4_turn_51 : decode cX4_turn 51 = .ok (.imul, 1) := by decide +kernel
theorem dX4_turn_52 : decode cX4_turn 52 = .ok (.aload 5, 2) := by decide +kernel
theorem dX4_turn_54 : decode cX4_turn 54 = .ok (.getfield 86, 3) := by decide +kernel
theorem dX4_turn_57 : decode cX4_turn 57 = .ok (.iadd, 1) := by decide +kernel
theorem dX4_turn_58 : decode cX4_turn 58 = .ok (.istore 6, 2) := by decide +kernel
theorem dX4_turn_60 : decode cX4_turn 60 = .ok (.aload 5, 2) := by decide +kernel
theorem dX4_turn_62 : decode cX4_turn 62 = .ok (.iload_n 2, 1) := by decide +kernel
theorem dX4_turn_63 : decode cX4_turn 63 = .ok (.putfield 83, 3) := by decide +kernel
theorem dX4_turn_66 : decode cX4_turn 66 = .ok (.aload 5, 2) := by decide +kernel
theorem dX4_turn_68 : decode cX4_turn 68 = .ok (.iload_n 3, 1) := by decide +kernel
theorem dX4_turn_69 : decode cX4_turn 69 = .ok (.putfield 86, 3) := by decide +kernel
theorem dX4_turn_72 : decode cX4_turn 72 = .ok (.iload 6, 2) := by decide +kernel
theorem dX4_turn_74 : decode cX4_turn 74 = .ok (.ireturn, 1) := by decide +kernel
set_option maxRecDepth 20000 in
theorem ggX4_days_X4_outside : GoodIn wsX4_days wsX4_outside := goodIn_r _ [6] (by decide +kernel) (by decide +kernel)
set_option maxRecDepth 20000 in
theorem gX4_days_X4_outside : GoodIn wsX4_days (va_wsS RX4 49 yX4_outside wsX4_outside) := goodIn_app (goodIn_of _ (by decide +kernel)) ggX4_days_X4_outside
set_option maxRecDepth 20000 in
theorem ggX4_days_X4_refused : GoodIn wsX4_days wsX4_refused := goodIn_r _ [10, 11, 63, 64, 65, 66, 67, 68, 69, 70, 71, 72, 73] (by decide +kernel) (by decide +kernel)
set_option maxRecDepth 20000 in
theorem gX4_days_X4_refused : GoodIn wsX4_days (wsV RX4 57 RX4 yX4_refused wsX4_refused) := goodIn_app (goodIn_of _ (by decide +kernel)) ggX4_days_X4_refused
set_option maxRecDepth 20000 in
theorem ggX4_days_X1_allThrough : GoodIn wsX4_days wsX1_allThrough := goodIn_r _ [16, 17, 18, 19, 20, 21, 15, 22, 23, 24, 74, 75, 76, 77, 78, 79, 80, 81, 82, 83, 84, 85, 86, 87] (by decide +kernel) (by decide +kernel)
set_option maxRecDepth 20000 in
theorem gX4_days_X1_allThrough : GoodIn wsX4_days (wsV RX4 124 RX1 yX1_allThrough wsX1_allThrough) := goodIn_app (goodIn_of _ (by decide +kernel)) ggX4_days_X1_allThrough
set_option maxRecDepth 20000 in
theorem ggX4_days_X1_daysGoBy : GoodIn wsX4_days wsX1_daysGoBy := goodIn_r _ [28, 29, 17, 19, 20, 21, 15, 22, 23, 24, 30, 31, 32, 33, 34, 35, 36, 37, 38, 39, 40, 41, 42, 43, 44, 45, 46, 47, 48, 49, 50, 51, 52, 53, 54, 55, 56, 57, 58, 59, 60, 61, 62, 74, 75, 76, 77, 78, 79, 80, 81, 82, 83, 84, 85, 86, 87] (by decide +kernel) (by decide +kernel)
set_option maxRecDepth 20000 in
theorem gX4_days_X1_daysGoBy : GoodIn wsX4_days (wsV RX4 127 RX1 yX1_daysGoBy wsX1_daysGoBy) := goodIn_app (goodIn_of _ (by decide +kernel)) ggX4_days_X1_daysGoBy
theorem dX4_days_0 : decode cX4_days 0 = .ok (.iload_n 1, 1) := by decide +kernel
theorem dX4_days_1 : decode cX4_days 1 = .ok (.iconst 1, 1) := by decide +kernel
theorem dX4_days_2 : decode cX4_days 2 = .ok (.bipush 60, 2) := by decide +kernel
theorem dX4_days_4 : decode cX4_days 4 = .ok (.invokestatic 49, 3) := by decide +kernel
theorem dX4_days_7 : decode cX4_days 7 = .ok (.istore_n 2, 1) := by decide +kernel
theorem dX4_days_8 : decode cX4_days 8 = .ok (.iload_n 2, 1) := by decide +kernel
theorem dX4_days_9 : decode cX4_days 9 = .ok (.ifCond .ne 21, 3) := by decide +kernel
theorem dX4_days_12 : decode cX4_days 12 = .ok (.aload_n 0, 1) := by decide +kernel
theorem dX4_days_13 : decode cX4_days 13 = .ok (.getfield 10, 3) := by decide +kernel
theorem dX4_days_16 : decode cX4_days 16 = .ok (.getfield 121, 3) := by decide +kernel
theorem dX4_days_19 : decode cX4_days 19 = .ok (.iload_n 1, 1) := by decide +kernel
theorem dX4_days_20 : decode cX4_days 20 = .ok (.iadd, 1) := by decide +kernel
theorem dX4_days_21 : decode cX4_days 21 = .ok (.sipush 999, 3) := by decide +kernel
theorem dX4_days_24 : decode cX4_days 24 = .ok (.if_icmp .le 6, 3) := by decide +kernel
theorem dX4_days_27 : decode cX4_days 27 = .ok (.bipush (-6), 2) := by decide +kernel
theorem dX4_days_29 : decode cX4_days 29 = .ok (.istore_n 2, 1) := by decide +kernel
theorem dX4_days_30 : decode cX4_days 30 = .ok (.iload_n 2, 1) := by decide +kernel
theorem dX4_days_31 : decode cX4_days 31 = .ok (.ifCond .eq 9, 3) := by decide +kernel
theorem dX4_days_34 : decode cX4_days 34 = .ok (.aload_n 0, 1) := by decide +kernel
theorem dX4_days_35 : decode cX4_days 35 = .ok (.iload_n 2, 1) := by decide +kernel
theorem dX4_days_36 : decode cX4_days 36 = .ok (.invokevirtual 57, 3) := by decide +kernel
theorem dX4_days_39 : decode cX4_days 39 = .ok (.ireturn, 1) := by decide +kernel
theorem dX4_days_40 : decode cX4_days 40 = .ok (.aload_n 0, 1) := by decide +kernel
theorem dX4_days_41 : decode cX4_days 41 = .ok (.getfield 10, 3) := by decide +kernel
theorem dX4_days_44 : decode cX4_days 44 = .ok (.invokevirtual 124, 3) := by decide +kernel
theorem dX4_days_47 : decode cX4_days 47 = .ok (.istore_n 3, 1) := by decide +kernel
theorem dX4_days_48 : decode cX4_days 48 = .ok (.aload_n 0, 1) := by decide +kernel
theorem dX4_days_49 : decode cX4_days 49 = .ok (.getfield 10, 3) := by decide +kernel
theorem dX4_days_52 : decode cX4_days 52 = .ok (.iload_n 1, 1) := by decide +kernel
theorem dX4_days_53 : decode cX4_days 53 = .ok (.invokevirtual 127, 3) := by decide +kernel
theorem dX4_days_56 : decode cX4_days 56 = .ok (.aload_n 0, 1) := by decide +kernel
theorem dX4_days_57 : decode cX4_days 57 = .ok (.getfield 10, 3) := by decide +kernel
theorem dX4_days_60 : decode cX4_days 60 = .ok (.invokevirtual 124, 3) := by decide +kernel
theorem dX4_days_63 : decode cX4_days 63 = .ok (.iload_n 3, 1) := by decide +kernel
theorem dX4_days_64 : decode cX4_days 64 = .ok (.isub, 1) := by decide +kernel
theorem dX4_days_65 : decode cX4_days 65 = .ok (.ireturn, 1) := by decide +kernel
set_option maxRecDepth 20000 in
theorem ggX4_personThen_X4_unknown : GoodIn wsX4_personThen wsX4_unknown := goodIn_r _ [10, 1, 11, 12, 13, 14, 15, 16, 73, 74, 75, 76, 77, 78, 79, 80, 81, 82, 83, 92, 93, 94, 95, 96, 97] (by decide +kernel) (by decide +kernel)
set_option maxRecDepth 20000 in
theorem gX4_personThen_X4_unknown : GoodIn wsX4_personThen (wsV RX4 69 RX4 yX4_unknown wsX4_unknown) := goodIn_app (goodIn_of _ (by decide +kernel)) ggX4_personThen_X4_unknown
set_option maxRecDepth 20000 in
theorem ggX4_personThen_X4_outside : GoodIn wsX4_personThen wsX4_outside := goodIn_r _ [19] (by decide +kernel) (by decide +kernel)
set_option maxRecDepth 20000 in
theorem gX4_personThen_X4_outside : GoodIn wsX4_personThen (va_wsS RX4 49 yX4_outside wsX4_outside) := goodIn_app (goodIn_of _ (by decide +kernel)) ggX4_personThen_X4_outside
set_option maxRecDepth 20000 in
theorem ggX4_personThen_X4_other : GoodIn wsX4_personThen wsX4_other := goodIn_r _ [22] (by decide +kernel) (by decide +kernel)
set_option maxRecDepth 20000 in
theorem gX4_personThen_X4_other : GoodIn wsX4_personThen (va_wsS RX4 72 yX4_other wsX4_other) := goodIn_app (goodIn_of _ (by decide +kernel)) ggX4_personThen_X4_other
set_option maxRecDepth 20000 in
theorem ggX4_personThen_X4_firstOf : GoodIn wsX4_personThen wsX4_firstOf := goodIn_r _ [25] (by decide +kernel) (by decide +kernel)
set_option maxRecDepth 20000 in
theorem gX4_personThen_X4_firstOf : GoodIn wsX4_personThen (va_wsS RX4 76 yX4_firstOf wsX4_firstOf) := goodIn_app (goodIn_of _ (by decide +kernel)) ggX4_personThen_X4_firstOf
set_option maxRecDepth 20000 in
theorem ggX4_personThen_X4_refused : GoodIn wsX4_personThen wsX4_refused := goodIn_r _ [29, 30, 73, 74, 75, 76, 77, 78, 79, 80, 81, 82, 83] (by decide +kernel) (by decide +kernel)
set_option maxRecDepth 20000 in
theorem gX4_personThen_X4_refused : GoodIn wsX4_personThen (wsV RX4 57 RX4 yX4_refused wsX4_refused) := goodIn_app (goodIn_of _ (by decide +kernel)) ggX4_personThen_X4_refused
set_option maxRecDepth 20000 in
theorem ggX4_personThen_X1_at : GoodIn wsX4_personThen wsX1_at := goodIn_r _ [34, 35, 36, 92, 93, 94, 95, 96, 97] (by decide +kernel) (by decide +kernel)
set_option maxRecDepth 20000 in
theorem gX4_personThen_X1_at : GoodIn wsX4_personThen (wsV RX4 79 RX1 yX1_at wsX1_at) := goodIn_app (goodIn_of _ (by decide +kernel)) ggX4_personThen_X1_at
set_option maxRecDepth 20000 in
theorem ggX4_personThen_X4_thought : GoodIn wsX4_personThen wsX4_thought := goodIn_r _ [40, 41, 1, 2, 31, 32, 33, 14, 34, 35, 36, 42, 43, 44, 45, 46, 47, 48, 49, 50, 51, 52, 53, 54, 55, 56, 57, 58, 59, 60, 61, 62, 63, 64, 65, 66, 67, 68, 69, 70, 71, 72, 73, 74, 75, 76, 77, 78, 79, 80, 81, 82, 83, 84, 85, 86, 87, 88, 89, 90, 91, 92, 93, 94, 95, 96, 97] (by decide +kernel) (by decide +kernel)
set_option maxRecDepth 20000 in
theorem gX4_personThen_X4_thought : GoodIn wsX4_personThen (wsV RX4 130 RX4 yX4_thought wsX4_thought) := goodIn_app (goodIn_of _ (by decide +kernel)) ggX4_personThen_X4_thought
theorem dX4_personThen_0 : decode cX4_personThen 0 = .ok (.aload_n 0, 1) := by decide +kernel
theorem dX4_personThen_1 : decode cX4_personThen 1 = .ok (.iload_n 1, 1) := by decide +kernel
theorem dX4_personThen_2 : decode cX4_personThen 2 = .ok (.invokevirtual 69, 3) := by decide +kernel
theorem dX4_personThen_5 : decode cX4_personThen 5 = .ok (.iload_n 2, 1) := by decide +kernel
theorem dX4_personThen_6 : decode cX4_personThen 6 = .ok (.iconst 0, 1) := by decide +kernel
theorem dX4_personThen_7 : decode cX4_personThen 7 = .ok (.bipush 99, 2) := by decide +kernel
theorem dX4_personThen_9 : decode cX4_personThen 9 = .ok (.invokestatic 49, 3) := by decide +kernel
theorem dX4_personThen_12 : decode cX4_personThen 12 = .ok (.iload_n 3, 1) := by decide +kernel
theorem dX4_personThen_13 : decode cX4_personThen 13 = .ok (.iconst 4, 1) := by decide +kernel
theorem dX4_personThen_14 : decode cX4_personThen 14 = .ok (.invokestatic 72, 3) := by decide +kernel
theorem dX4_personThen_17 : decode cX4_personThen 17 = .ok (.invokestatic 76, 3) := by decide +kernel
theorem dX4_personThen_20 : decode cX4_personThen 20 = .ok (.istore 4, 2) := by decide +kernel
theorem dX4_personThen_22 : decode cX4_personThen 22 = .ok (.iload 4, 2) := by decide +kernel
theorem dX4_personThen_24 : decode cX4_personThen 24 = .ok (.ifCond .eq 10, 3) := by decide +kernel
theorem dX4_personThen_27 : decode cX4_personThen 27 = .ok (.aload_n 0, 1) := by decide +kernel
theorem dX4_personThen_28 : decode cX4_personThen 28 = .ok (.iload 4, 2) := by decide +kernel
theorem dX4_personThen_30 : decode cX4_personThen 30 = .ok (.invokevirtual 57, 3) := by decide +kernel
theorem dX4_personThen_33 : decode cX4_personThen 33 = .ok (.ireturn, 1) := by decide +kernel
theorem dX4_personThen_34 : decode cX4_personThen 34 = .ok (.aload_n 0, 1) := by decide +kernel
theorem dX4_personThen_35 : decode cX4_personThen 35 = .ok (.getfield 10, 3) := by decide +kernel
theorem dX4_personThen_38 : decode cX4_personThen 38 = .ok (.iload_n 1, 1) := by decide +kernel
theorem dX4_personThen_39 : decode cX4_personThen 39 = .ok (.invokevirtual 79, 3) := by decide +kernel
theorem dX4_personThen_42 : decode cX4_personThen 42 = .ok (.astore 5, 2) := by decide +kernel
theorem dX4_personThen_44 : decode cX4_personThen 44 = .ok (.aload_n 0, 1) := by decide +kernel
theorem dX4_personThen_45 : decode cX4_personThen 45 = .ok (.iload_n 1, 1) := by decide +kernel
theorem dX4_personThen_46 : decode cX4_personThen 46 = .ok (.aload 5, 2) := by decide +kernel
theorem dX4_personThen_48 : decode cX4_personThen 48 = .ok (.getfield 89, 3) := by decide +kernel
theorem dX4_personThen_51 : decode cX4_personThen 51 = .ok (.iload_n 2, 1) := by decide +kernel
theorem dX4_personThen_52 : decode cX4_personThen 52 = .ok (.invokevirtual 130, 3) := by decide +kernel
theorem dX4_personThen_55 : decode cX4_personThen 55 = .ok (.astore 6, 2) := by decide +kernel
theorem dX4_personThen_57 : decode cX4_personThen 57 = .ok (.iload_n 3, 1) := by decide +kernel
theorem dX4_personThen_58 : decode cX4_personThen 58 = .ok (.tableswitch 54 0 3 #[30, 36, 42, 48], 30) := by decide +kernel
theorem dX4_personThen_88 : decode cX4_personThen 88 = .ok (.aload 6, 2) := by decide +kernel
theorem dX4_personThen_90 : decode cX4_personThen 90 = .ok (.getfield 89, 3) := by decide +kernel
theorem dX4_personThen_93 : decode cX4_personThen 93 = .ok (.ireturn, 1) := by decide +kernel
theorem dX4_personThen_94 : decode cX4_personThen 94 = .ok (.aload 6, 2) := by decide +kernel
theorem dX4_personThen_96 : decode cX4_personThen 96 = .ok (.getfield 92, 3) := by decide +kernel
theorem dX4_personThen_99 : decode cX4_personThen 99 = .ok (.ireturn, 1) := by decide +kernel
theorem dX4_personThen_100 : decode cX4_personThen 100 = .ok (.aload 6, 2) := by decide +kernel
theorem dX4_personThen_102 : decode cX4_personThen 102 = .ok (.getfield 95, 3) := by decide +kernel
theorem dX4_personThen_105 : decode cX4_personThen 105 = .ok (.ireturn, 1) := by decide +kernel
theorem dX4_personThen_106 : decode cX4_personThen 106 = .ok (.aload 6, 2) := by decide +kernel
theorem dX4_personThen_108 : decode cX4_personThen 108 = .ok (.getfield 98, 3) := by decide +kernel
theorem dX4_personThen_111 : decode cX4_personThen 111 = .ok (.ireturn, 1) := by decide +kernel
theorem dX4_personThen_112 : decode cX4_personThen 112 = .ok (.aload 6, 2) := by decide +kernel
theorem dX4_personThen_114 : decode cX4_personThen 114 = .ok (.getfield 98, 3) := by decide +kernel
theorem dX4_personThen_117 : decode cX4_personThen 117 = .ok (.aload 5, 2) := by decide +kernel
theorem dX4_personThen_119 : decode cX4_personThen 119 = .ok (.getfield 98, 3) := by decide +kernel
theorem dX4_personThen_122 : decode cX4_personThen 122 = .ok (.if_icmp .le 7, 3) := by decide +kernel
theorem dX4_personThen_125 : decode cX4_personThen 125 = .ok (.iconst 1, 1) := by decide +kernel
theorem dX4_personThen_126 : decode cX4_personThen 126 = .ok (.goto 4, 3) := by decide +kernel
theorem dX4_personThen_129 : decode cX4_personThen 129 = .ok (.iconst 0, 1) := by decide +kernel
theorem dX4_personThen_130 : decode cX4_personThen 130 = .ok (.ireturn, 1) := by decide +kernel
set_option maxRecDepth 20000 in
theorem ggX4_allThen_X4_outside : GoodIn wsX4_allThen wsX4_outside := goodIn_r _ [7] (by decide +kernel) (by decide +kernel)
set_option maxRecDepth 20000 in
theorem gX4_allThen_X4_outside : GoodIn wsX4_allThen (va_wsS RX4 49 yX4_outside wsX4_outside) := goodIn_app (goodIn_of _ (by decide +kernel)) ggX4_allThen_X4_outside
set_option maxRecDepth 20000 in
theorem ggX4_allThen_X4_other : GoodIn wsX4_allThen wsX4_other := goodIn_r _ [10] (by decide +kernel) (by decide +kernel)
set_option maxRecDepth 20000 in
theorem gX4_allThen_X4_other : GoodIn wsX4_allThen (va_wsS RX4 72 yX4_other wsX4_other) := goodIn_app (goodIn_of _ (by decide +kernel)) ggX4_allThen_X4_other
set_option maxRecDepth 20000 in
theorem ggX4_allThen_X4_firstOf : GoodIn wsX4_allThen wsX4_firstOf := goodIn_r _ [13] (by decide +kernel) (by decide +kernel)
set_option maxRecDepth 20000 in
theorem gX4_allThen_X4_firstOf : GoodIn wsX4_allThen (va_wsS RX4 76 yX4_firstOf wsX4_firstOf) := goodIn_app (goodIn_of _ (by decide +kernel)) ggX4_allThen_X4_firstOf
set_option maxRecDepth 20000 in
theorem ggX4_allThen_X4_refused : GoodIn wsX4_allThen wsX4_refused := goodIn_r _ [17, 18, 84, 85, 86, 87, 88, 89, 90, 91, 92, 93, 94] (by decide +kernel) (by decide +kernel)
set_option maxRecDepth 20000 in
theorem gX4_allThen_X4_refused : GoodIn wsX4_allThen (wsV RX4 57 RX4 yX4_refused wsX4_refused) := goodIn_app (goodIn_of _ (by decide +kernel)) ggX4_allThen_X4_refused
set_option maxRecDepth 20000 in
theorem ggX4_allThen_X1_takeFrom : GoodIn wsX4_allThen wsX1_takeFrom := goodIn_r _ [23, 24, 25, 26, 27, 28, 29, 30, 22, 31, 32, 33, 34, 35, 36, 37, 38, 39, 40, 41, 42, 43, 44, 45, 46, 95, 96, 97, 98, 99, 100, 101, 102, 103, 104, 105, 106, 107, 108] (by decide +kernel) (by decide +kernel)
set_option maxRecDepth 20000 in
theorem gX4_allThen_X1_takeFrom : GoodIn wsX4_allThen (wsV RX4 134 RX1 yX1_takeFrom wsX1_takeFrom) := goodIn_app (goodIn_of _ (by decide +kernel)) ggX4_allThen_X1_takeFrom
set_option maxRecDepth 20000 in
theorem ggX4_allThen_X1_daysGoBy : GoodIn wsX4_allThen wsX1_daysGoBy := goodIn_r _ [50, 27, 24, 28, 29, 30, 22, 31, 32, 33, 51, 52, 53, 37, 54, 42, 39, 40, 41, 45, 43, 55, 56, 57, 58, 46, 44, 59, 60, 61, 62, 63, 64, 65, 66, 67, 68, 69, 70, 71, 72, 26, 73, 95, 96, 97, 98, 99, 100, 101, 102, 103, 104, 105, 106, 107, 108] (by decide +kernel) (by decide +kernel)
set_option maxRecDepth 20000 in
theorem gX4_allThen_X1_daysGoBy : GoodIn wsX4_allThen (wsV RX4 127 RX1 yX1_daysGoBy wsX1_daysGoBy) := goodIn_app (goodIn_of _ (by decide +kernel)) ggX4_allThen_X1_daysGoBy
set_option maxRecDepth 20000 in
theorem ggX4_allThen_X1_allThrough : GoodIn wsX4_allThen wsX1_allThrough := goodIn_r _ [77, 24, 78, 28, 29, 30, 22, 31, 32, 33, 95, 96, 97, 98, 99, 100, 101, 102, 103, 104, 105, 106, 107, 108] (by decide +kernel) (by decide +kernel)
set_option maxRecDepth 20000 in
theorem gX4_allThen_X1_allThrough : GoodIn wsX4_allThen (wsV RX4 124 RX1 yX1_allThrough wsX1_allThrough) := goodIn_app (goodIn_of _ (by decide +kernel)) ggX4_allThen_X1_allThrough
set_option maxRecDepth 20000 in
theorem ggX4_allThen_X1_allShort : GoodIn wsX4_allThen wsX1_allShort := goodIn_r _ [82, 24, 83, 28, 29, 30, 22, 31, 32, 33, 95, 96, 97, 98, 99, 100, 101, 102, 103, 104, 105, 106, 107, 108] (by decide +kernel) (by decide +kernel)
set_option maxRecDepth 20000 in
theorem gX4_allThen_X1_allShort : GoodIn wsX4_allThen (wsV RX4 138 RX1 yX1_allShort wsX1_allShort) := goodIn_app (goodIn_of _ (by decide +kernel)) ggX4_allThen_X1_allShort
theorem dX4_allThen_0 : decode cX4_allThen 0 = .ok (.iload_n 1, 1) := by decide +kernel
theorem dX4_allThen_1 : decode cX4_allThen 1 = .ok (.iconst 0, 1) := by decide +kernel
theorem dX4_allThen_2 : decode cX4_allThen 2 = .ok (.bipush 99, 2) := by decide +kernel
theorem dX4_allThen_4 : decode cX4_allThen 4 = .ok (.invokestatic 49, 3) := by decide +kernel
theorem dX4_allThen_7 : decode cX4_allThen 7 = .ok (.iload_n 2, 1) := by decide +kernel
theorem dX4_allThen_8 : decode cX4_allThen 8 = .ok (.iconst 2, 1) := by decide +kernel
theorem dX4_allThen_9 : decode cX4_allThen 9 = .ok (.invokestatic 72, 3) := by decide +kernel
theorem dX4_allThen_12 : decode cX4_allThen 12 = .ok (.iconst 0, 1) := by decide +kernel
theorem dX4_allThen_13 : decode cX4_allThen 13 = .ok (.invokestatic 76, 3) := by decide +kernel
theorem dX4_allThen_16 : decode cX4_allThen 16 = .ok (.istore_n 3, 1) := by decide +kernel
theorem dX4_allThen_17 : decode cX4_allThen 17 = .ok (.iload_n 3, 1) := by decide +kernel
theorem dX4_allThen_18 : decode cX4_allThen 18 = .ok (.ifCond .eq 9, 3) := by decide +kernel
theorem dX4_allThen_21 : decode cX4_allThen 21 = .ok (.aload_n 0, 1) := by decide +kernel
theorem dX4_allThen_22 : decode cX4_allThen 22 = .ok (.iload_n 3, 1) := by decide +kernel
theorem dX4_allThen_23 : decode cX4_allThen 23 = .ok (.invokevirtual 57, 3) := by decide +kernel
theorem dX4_allThen_26 : decode cX4_allThen 26 = .ok (.ireturn, 1) := by decide +kernel
theorem dX4_allThen_27 : decode cX4_allThen 27 = .ok (.aload_n 0, 1) := by decide +kernel
theorem dX4_allThen_28 : decode cX4_allThen 28 = .ok (.getfield 16, 3) := by decide +kernel
theorem dX4_allThen_31 : decode cX4_allThen 31 = .ok (.aload_n 0, 1) := by decide +kernel
theorem dX4_allThen_32 : decode cX4_allThen 32 = .ok (.getfield 10, 3) := by decide +kernel
theorem dX4_allThen_35 : decode cX4_allThen 35 = .ok (.invokevirtual 134, 3) := by decide +kernel
theorem dX4_allThen_38 : decode cX4_allThen 38 = .ok (.aload_n 0, 1) := by decide +kernel
theorem dX4_allThen_39 : decode cX4_allThen 39 = .ok (.getfield 16, 3) := by decide +kernel
theorem dX4_allThen_42 : decode cX4_allThen 42 = .ok (.iload_n 1, 1) := by decide +kernel
theorem dX4_allThen_43 : decode cX4_allThen 43 = .ok (.invokevirtual 127, 3) := by decide +kernel
theorem dX4_allThen_46 : decode cX4_allThen 46 = .ok (.iload_n 2, 1) := by decide +kernel
theorem dX4_allThen_47 : decode cX4_allThen 47 = .ok (.ifCond .ne 11, 3) := by decide +kernel
theorem dX4_allThen_50 : decode cX4_allThen 50 = .ok (.aload_n 0, 1) := by decide +kernel
theorem dX4_allThen_51 : decode cX4_allThen 51 = .ok (.getfield 16, 3) := by decide +kernel
theorem dX4_allThen_54 : decode cX4_allThen 54 = .ok (.invokevirtual 124, 3) := by decide +kernel
theorem dX4_allThen_57 : decode cX4_allThen 57 = .ok (.ireturn, 1) := by decide +kernel
theorem dX4_allThen_58 : decode cX4_allThen 58 = .ok (.iload_n 2, 1) := by decide +kernel
theorem dX4_allThen_59 : decode cX4_allThen 59 = .ok (.iconst 1, 1) := by decide +kernel
theorem dX4_allThen_60 : decode cX4_allThen 60 = .ok (.if_icmp .ne 13, 3) := by decide +kernel
theorem dX4_allThen_63 : decode cX4_allThen 63 = .ok (.aload_n 0, 1) := by decide +kernel
theorem dX4_allThen_64 : decode cX4_allThen 64 = .ok (.getfield 16, 3) := by decide +kernel
theorem dX4_allThen_67 : decode cX4_allThen 67 = .ok (.invokevirtual 138, 3) := by decide +kernel
theorem dX4_allThen_70 : decode cX4_allThen 70 = .ok (.goto 10, 3) := by decide +kernel
theorem dX4_allThen_73 : decode cX4_allThen 73 = .ok (.aload_n 0, 1) := by decide +kernel
theorem dX4_allThen_74 : decode cX4_allThen 74 = .ok (.getfield 16, 3) := by decide +kernel
theorem dX4_allThen_77 : decode cX4_allThen 77 = .ok (.getfield 141, 3) := by decide +kernel
theorem dX4_allThen_80 : decode cX4_allThen 80 = .ok (.ireturn, 1) := by decide +kernel
set_option maxRecDepth 20000 in
theorem ggX4_first_X4_other : GoodIn wsX4_first wsX4_other := goodIn_r _ [6] (by decide +kernel) (by decide +kernel)
set_option maxRecDepth 20000 in
theorem gX4_first_X4_other : GoodIn wsX4_first (va_wsS RX4 72 yX4_other wsX4_other) := goodIn_app (goodIn_of _ (by decide +kernel)) ggX4_first_X4_other
set_option maxRecDepth 20000 in
theorem ggX4_first_X4_refused : GoodIn wsX4_first wsX4_refused := goodIn_r _ [10, 11, 72, 73, 74, 75, 76, 77, 78, 79, 80, 81, 82] (by decide +kernel) (by decide +kernel)
set_option maxRecDepth 20000 in
theorem gX4_first_X4_refused : GoodIn wsX4_first (wsV RX4 57 RX4 yX4_refused wsX4_refused) := goodIn_app (goodIn_of _ (by decide +kernel)) ggX4_first_X4_refused
set_option maxRecDepth 20000 in
theorem ggX4_first_X1_takeFrom : GoodIn wsX4_first wsX1_takeFrom := goodIn_r _ [16, 17, 18, 19, 20, 21, 22, 23, 15, 24, 25, 26, 27, 28, 29, 30, 31, 32, 33, 34, 35, 36, 37, 38, 39, 83, 84, 85, 86, 87, 88, 89, 90, 91, 92, 93, 94, 95, 96] (by decide +kernel) (by decide +kernel)
set_option maxRecDepth 20000 in
theorem gX4_first_X1_takeFrom : GoodIn wsX4_first (wsV RX4 134 RX1 yX1_takeFrom wsX1_takeFrom) := goodIn_app (goodIn_of _ (by decide +kernel)) ggX4_first_X1_takeFrom
set_option maxRecDepth 20000 in
theorem ggX4_first_X1_daysGoBy : GoodIn wsX4_first wsX1_daysGoBy := goodIn_r _ [43, 20, 17, 21, 22, 23, 15, 24, 25, 26, 44, 45, 46, 30, 47, 35, 32, 33, 34, 38, 36, 48, 49, 50, 51, 39, 37, 52, 53, 54, 55, 56, 57, 58, 59, 60, 61, 62, 63, 64, 65, 19, 66, 83, 84, 85, 86, 87, 88, 89, 90, 91, 92, 93, 94, 95, 96] (by decide +kernel) (by decide +kernel)
set_option maxRecDepth 20000 in
theorem gX4_first_X1_daysGoBy : GoodIn wsX4_first (wsV RX4 127 RX1 yX1_daysGoBy wsX1_daysGoBy) := goodIn_app (goodIn_of _ (by decide +kernel)) ggX4_first_X1_daysGoBy
set_option maxRecDepth 20000 in
theorem ggX4_first_X1_firstMissing : GoodIn wsX4_first wsX1_firstMissing := goodIn_r _ [70, 17, 71, 21, 22, 23, 15, 24, 25, 26, 83, 84, 85, 86, 87, 88, 89, 90, 91, 92, 93, 94, 95, 96] (by decide +kernel) (by decide +kernel)
set_option maxRecDepth 20000 in
theorem gX4_first_X1_firstMissing : GoodIn wsX4_first (wsV RX4 144 RX1 yX1_firstMissing wsX1_firstMissing) := goodIn_app (goodIn_of _ (by decide +kernel)) ggX4_first_X1_firstMissing
theorem dX4_first_0 : decode cX4_first 0 = .ok (.iload_n 1, 1) := by decide +kernel
theorem dX4_first_1 : decode cX4_first 1 = .ok (.iconst 1, 1) := by decide +kernel
theorem dX4_first_2 : decode cX4_first 2 = .ok (.invokestatic 72, 3) := by decide +kernel
theorem dX4_first_5 : decode cX4_first 5 = .ok (.istore_n 2, 1) := by decide +kernel
theorem dX4_first_6 : decode cX4_first 6 = .ok (.iload_n 2, 1) := by decide +kernel
theorem dX4_first_7 : decode cX4_first 7 = .ok (.ifCond .eq 9, 3) := by decide +kernel
theorem dX4_first_10 : decode cX4_first 10 = .ok (.aload_n 0, 1) := by decide +kernel
theorem dX4_first_11 : decode cX4_first 11 = .ok (.iload_n 2, 1) := by decide +kernel
theorem dX4_first_12 : decode cX4_first 12 = .ok (.invokevirtual 57, 3) := by decide +kernel
theorem dX4_first_15 : decode cX4_first 15 = .ok (.ireturn, 1) := by decide +kernel
theorem dX4_first_16 : decode cX4_first 16 = .ok (.aload_n 0, 1) := by decide +kernel
theorem dX4_first_17 : decode cX4_first 17 = .ok (.getfield 16, 3) := by decide +kernel
theorem dX4_first_20 : decode cX4_first 20 = .ok (.aload_n 0, 1) := by decide +kernel
theorem dX4_first_21 : decode cX4_first 21 = .ok (.getfield 10, 3) := by decide +kernel
theorem dX4_first_24 : decode cX4_first 24 = .ok (.invokevirtual 134, 3) := by decide +kernel
theorem dX4_first_27 : decode cX4_first 27 = .ok (.iconst 1, 1) := by decide +kernel
theorem dX4_first_28 : decode cX4_first 28 = .ok (.istore_n 3, 1) := by decide +kernel
theorem dX4_first_29 : decode cX4_first 29 = .ok (.iload_n 3, 1) := by decide +kernel
theorem dX4_first_30 : decode cX4_first 30 = .ok (.bipush 99, 2) := by decide +kernel
theorem dX4_first_32 : decode cX4_first 32 = .ok (.if_icmp .gt 42, 3) := by decide +kernel
theorem dX4_first_35 : decode cX4_first 35 = .ok (.aload_n 0, 1) := by decide +kernel
theorem dX4_first_36 : decode cX4_first 36 = .ok (.getfield 16, 3) := by decide +kernel
theorem dX4_first_39 : decode cX4_first 39 = .ok (.iconst 1, 1) := by decide +kernel
theorem dX4_first_40 : decode cX4_first 40 = .ok (.invokevirtual 127, 3) := by decide +kernel
theorem dX4_first_43 : decode cX4_first 43 = .ok (.aload_n 0, 1) := by decide +kernel
theorem dX4_first_44 : decode cX4_first 44 = .ok (.getfield 16, 3) := by decide +kernel
theorem dX4_first_47 : decode cX4_first 47 = .ok (.invokevirtual 144, 3) := by decide +kernel
theorem dX4_first_50 : decode cX4_first 50 = .ok (.istore 4, 2) := by decide +kernel
theorem dX4_first_52 : decode cX4_first 52 = .ok (.iload 4, 2) := by decide +kernel
theorem dX4_first_54 : decode cX4_first 54 = .ok (.ifCond .lt 14, 3) := by decide +kernel
theorem dX4_first_57 : decode cX4_first 57 = .ok (.iload_n 1, 1) := by decide +kernel
theorem dX4_first_58 : decode cX4_first 58 = .ok (.ifCond .ne 8, 3) := by decide +kernel
theorem dX4_first_61 : decode cX4_first 61 = .ok (.iload 4, 2) := by decide +kernel
theorem dX4_first_63 : decode cX4_first 63 = .ok (.goto 4, 3) := by decide +kernel
theorem dX4_first_66 : decode cX4_first 66 = .ok (.iload_n 3, 1) := by decide +kernel
theorem dX4_first_67 : decode cX4_first 67 = .ok (.ireturn, 1) := by decide +kernel
theorem dX4_first_68 : decode cX4_first 68 = .ok (.iinc 3 1, 3) := by decide +kernel
theorem dX4_first_71 : decode cX4_first 71 = .ok (.goto (-42), 3) := by decide +kernel
theorem dX4_first_74 : decode cX4_first 74 = .ok (.bipush (-9), 2) := by decide +kernel
theorem dX4_first_76 : decode cX4_first 76 = .ok (.ireturn, 1) := by decide +kernel
set_option maxRecDepth 20000 in
theorem ggX4_lasts_X4_unknown : GoodIn wsX4_lasts wsX4_unknown := goodIn_r _ [9, 2, 10, 11, 12, 13, 14, 15, 58, 59, 60, 61, 62, 63, 64, 65, 66, 67, 68, 77, 78, 79, 80, 81, 82] (by decide +kernel) (by decide +kernel)
set_option maxRecDepth 20000 in
theorem gX4_lasts_X4_unknown : GoodIn wsX4_lasts (wsV RX4 69 RX4 yX4_unknown wsX4_unknown) := goodIn_app (goodIn_of _ (by decide +kernel)) ggX4_lasts_X4_unknown
set_option maxRecDepth 20000 in
theorem ggX4_lasts_X4_refused : GoodIn wsX4_lasts wsX4_refused := goodIn_r _ [19, 20, 58, 59, 60, 61, 62, 63, 64, 65, 66, 67, 68] (by decide +kernel) (by decide +kernel)
set_option maxRecDepth 20000 in
theorem gX4_lasts_X4_refused : GoodIn wsX4_lasts (wsV RX4 57 RX4 yX4_refused wsX4_refused) := goodIn_app (goodIn_of _ (by decide +kernel)) ggX4_lasts_X4_refused
set_option maxRecDepth 20000 in
theorem ggX4_lasts_X1_at : GoodIn wsX4_lasts wsX1_at := goodIn_r _ [24, 25, 26, 77, 78, 79, 80, 81, 82] (by decide +kernel) (by decide +kernel)
set_option maxRecDepth 20000 in
theorem gX4_lasts_X1_at : GoodIn wsX4_lasts (wsV RX4 79 RX1 yX1_at wsX1_at) := goodIn_app (goodIn_of _ (by decide +kernel)) ggX4_lasts_X1_at
set_option maxRecDepth 20000 in
theorem ggX4_lasts_X2_takeFrom : GoodIn wsX4_lasts wsX2_takeFrom := goodIn_r _ [31, 32, 33, 34, 35, 36, 37, 38, 39, 69, 70, 71, 72, 73, 74, 75, 76] (by decide +kernel) (by decide +kernel)
set_option maxRecDepth 20000 in
theorem gX4_lasts_X2_takeFrom : GoodIn wsX4_lasts (wsV RX4 147 RX2 yX2_takeFrom wsX2_takeFrom) := goodIn_app (goodIn_of _ (by decide +kernel)) ggX4_lasts_X2_takeFrom
set_option maxRecDepth 20000 in
theorem ggX4_lasts_X2_oneDay : GoodIn wsX4_lasts wsX2_oneDay := goodIn_r _ [43, 35, 32, 33, 34, 38, 36, 44, 45, 46, 47, 39, 37, 48, 49, 50, 51, 52, 53, 54, 55, 56, 57, 69, 70, 71, 72, 73, 74, 75, 76] (by decide +kernel) (by decide +kernel)
set_option maxRecDepth 20000 in
theorem gX4_lasts_X2_oneDay : GoodIn wsX4_lasts (wsV RX4 153 RX2 yX2_oneDay wsX2_oneDay) := goodIn_app (goodIn_of _ (by decide +kernel)) ggX4_lasts_X2_oneDay
theorem dX4_lasts_0 : decode cX4_lasts 0 = .ok (.aload_n 0, 1) := by decide +kernel
theorem dX4_lasts_1 : decode cX4_lasts 1 = .ok (.iload_n 1, 1) := by decide +kernel
theorem dX4_lasts_2 : decode cX4_lasts 2 = .ok (.invokevirtual 69, 3) := by decide +kernel
theorem dX4_lasts_5 : decode cX4_lasts 5 = .ok (.istore_n 2, 1) := by decide +kernel
theorem dX4_lasts_6 : decode cX4_lasts 6 = .ok (.iload_n 2, 1) := by decide +kernel
theorem dX4_lasts_7 : decode cX4_lasts 7 = .ok (.ifCond .eq 9, 3) := by decide +kernel
theorem dX4_lasts_10 : decode cX4_lasts 10 = .ok (.aload_n 0, 1) := by decide +kernel
theorem dX4_lasts_11 : decode cX4_lasts 11 = .ok (.iload_n 2, 1) := by decide +kernel
theorem dX4_lasts_12 : decode cX4_lasts 12 = .ok (.invokevirtual 57, 3) := by decide +kernel
theorem dX4_lasts_15 : decode cX4_lasts 15 = .ok (.ireturn, 1) := by decide +kernel
theorem dX4_lasts_16 : decode cX4_lasts 16 = .ok (.aload_n 0, 1) := by decide +kernel
theorem dX4_lasts_17 : decode cX4_lasts 17 = .ok (.getfield 25, 3) := by decide +kernel
theorem dX4_lasts_20 : decode cX4_lasts 20 = .ok (.aload_n 0, 1) := by decide +kernel
theorem dX4_lasts_21 : decode cX4_lasts 21 = .ok (.getfield 10, 3) := by decide +kernel
theorem dX4_lasts_24 : decode cX4_lasts 24 = .ok (.iload_n 1, 1) := by decide +kernel
theorem dX4_lasts_25 : decode cX4_lasts 25 = .ok (.invokevirtual 79, 3) := by decide +kernel
theorem dX4_lasts_28 : decode cX4_lasts 28 = .ok (.invokevirtual 147, 3) := by decide +kernel
theorem dX4_lasts_31 : decode cX4_lasts 31 = .ok (.iconst 1, 1) := by decide +kernel
theorem dX4_lasts_32 : decode cX4_lasts 32 = .ok (.istore_n 3, 1) := by decide +kernel
theorem dX4_lasts_33 : decode cX4_lasts 33 = .ok (.iload_n 3, 1) := by decide +kernel
theorem dX4_lasts_34 : decode cX4_lasts 34 = .ok (.bipush 99, 2) := by decide +kernel
theorem dX4_lasts_36 : decode cX4_lasts 36 = .ok (.if_icmp .gt 27, 3) := by decide +kernel
theorem dX4_lasts_39 : decode cX4_lasts 39 = .ok (.aload_n 0, 1) := by decide +kernel
theorem dX4_lasts_40 : decode cX4_lasts 40 = .ok (.getfield 25, 3) := by decide +kernel
theorem dX4_lasts_43 : decode cX4_lasts 43 = .ok (.getfield 150, 3) := by decide +kernel
theorem dX4_lasts_46 : decode cX4_lasts 46 = .ok (.ifCond .ne 17, 3) := by decide +kernel
theorem dX4_lasts_49 : decode cX4_lasts 49 = .ok (.aload_n 0, 1) := by decide +kernel
theorem dX4_lasts_50 : decode cX4_lasts 50 = .ok (.getfield 25, 3) := by decide +kernel
theorem dX4_lasts_53 : decode cX4_lasts 53 = .ok (.invokevirtual 153, 3) := by decide +kernel
theorem dX4_lasts_56 : decode cX4_lasts 56 = .ok (.pop, 1) := by decide +kernel
theorem dX4_lasts_57 : decode cX4_lasts 57 = .ok (.iinc 3 1, 3) := by decide +kernel
theorem dX4_lasts_60 : decode cX4_lasts 60 = .ok (.goto (-27), 3) := by decide +kernel
theorem dX4_lasts_63 : decode cX4_lasts 63 = .ok (.aload_n 0, 1) := by decide +kernel
theorem dX4_lasts_64 : decode cX4_lasts 64 = .ok (.getfield 25, 3) := by decide +kernel
theorem dX4_lasts_67 : decode cX4_lasts 67 = .ok (.getfield 156, 3) := by decide +kernel
theorem dX4_lasts_70 : decode cX4_lasts 70 = .ok (.ireturn, 1) := by decide +kernel
set_option maxRecDepth 20000 in
theorem ggX4_lacks_X1_at : GoodIn wsX4_lacks wsX1_at := goodIn_r _ [7, 8, 9, 42, 43, 44, 45, 46, 47] (by decide +kernel) (by decide +kernel)
set_option maxRecDepth 20000 in
theorem gX4_lacks_X1_at : GoodIn wsX4_lacks (wsV RX4 79 RX1 yX1_at wsX1_at) := goodIn_app (goodIn_of _ (by decide +kernel)) ggX4_lacks_X1_at
set_option maxRecDepth 20000 in
theorem ggX4_lacks_X2_lacking : GoodIn wsX4_lacks wsX2_lacking := goodIn_r _ [14, 15, 16, 17, 18, 19, 20, 21, 22, 23, 13, 24, 25, 26, 27, 28, 29, 30, 48, 49, 50, 51, 52, 53, 54, 55] (by decide +kernel) (by decide +kernel)
set_option maxRecDepth 20000 in
theorem gX4_lacks_X2_lacking : GoodIn wsX4_lacks (wsV RX4 104 RX2 yX2_lacking wsX2_lacking) := goodIn_app (goodIn_of _ (by decide +kernel)) ggX4_lacks_X2_lacking
theorem dX4_lacks_0 : decode cX4_lacks 0 = .ok (.iconst 0, 1) := by decide +kernel
theorem dX4_lacks_1 : decode cX4_lacks 1 = .ok (.istore_n 1, 1) := by decide +kernel
theorem dX4_lacks_2 : decode cX4_lacks 2 = .ok (.iconst 0, 1) := by decide +kernel
theorem dX4_lacks_3 : decode cX4_lacks 3 = .ok (.istore_n 2, 1) := by decide +kernel
theorem dX4_lacks_4 : decode cX4_lacks 4 = .ok (.iload_n 2, 1) := by decide +kernel
theorem dX4_lacks_5 : decode cX4_lacks 5 = .ok (.aload_n 0, 1) := by decide +kernel
theorem dX4_lacks_6 : decode cX4_lacks 6 = .ok (.getfield 10, 3) := by decide +kernel
theorem dX4_lacks_9 : decode cX4_lacks 9 = .ok (.getfield 159, 3) := by decide +kernel
theorem dX4_lacks_12 : decode cX4_lacks 12 = .ok (.if_icmp .ge 23, 3) := by decide +kernel
theorem dX4_lacks_15 : decode cX4_lacks 15 = .ok (.iload_n 1, 1) := by decide +kernel
theorem dX4_lacks_16 : decode cX4_lacks 16 = .ok (.aload_n 0, 1) := by decide +kernel
theorem dX4_lacks_17 : decode cX4_lacks 17 = .ok (.getfield 10, 3) := by decide +kernel
theorem dX4_lacks_20 : decode cX4_lacks 20 = .ok (.iload_n 2, 1) := by decide +kernel
theorem dX4_lacks_21 : decode cX4_lacks 21 = .ok (.invokevirtual 79, 3) := by decide +kernel
theorem dX4_lacks_24 : decode cX4_lacks 24 = .ok (.invokevirtual 104, 3) := by decide +kernel
theorem dX4_lacks_27 : decode cX4_lacks 27 = .ok (.iadd, 1) := by decide +kernel
theorem dX4_lacks_28 : decode cX4_lacks 28 = .ok (.istore_n 1, 1) := by decide +kernel
theorem dX4_lacks_29 : decode cX4_lacks 29 = .ok (.iinc 2 1, 3) := by decide +kernel
theorem dX4_lacks_32 : decode cX4_lacks 32 = .ok (.goto (-28), 3) := by decide +kernel
theorem dX4_lacks_35 : decode cX4_lacks 35 = .ok (.iload_n 1, 1) := by decide +kernel
theorem dX4_lacks_36 : decode cX4_lacks 36 = .ok (.ireturn, 1) := by decide +kernel
set_option maxRecDepth 20000 in
theorem ggX4_next_X4_other : GoodIn wsX4_next wsX4_other := goodIn_r _ [7] (by decide +kernel) (by decide +kernel)
set_option maxRecDepth 20000 in
theorem gX4_next_X4_other : GoodIn wsX4_next (va_wsS RX4 72 yX4_other wsX4_other) := goodIn_app (goodIn_of _ (by decide +kernel)) ggX4_next_X4_other
set_option maxRecDepth 20000 in
theorem ggX4_next_X4_refused : GoodIn wsX4_next wsX4_refused := goodIn_r _ [11, 12, 20, 21, 22, 23, 24, 25, 26, 27, 28, 29, 30] (by decide +kernel) (by decide +kernel)
set_option maxRecDepth 20000 in
theorem gX4_next_X4_refused : GoodIn wsX4_next (wsV RX4 57 RX4 yX4_refused wsX4_refused) := goodIn_app (goodIn_of _ (by decide +kernel)) ggX4_next_X4_refused
set_option maxRecDepth 20000 in
theorem ggX4_next_X1_at : GoodIn wsX4_next wsX1_at := goodIn_r _ [17, 18, 19, 31, 32, 33, 34, 35, 36] (by decide +kernel) (by decide +kernel)
set_option maxRecDepth 20000 in
theorem gX4_next_X1_at : GoodIn wsX4_next (wsV RX4 79 RX1 yX1_at wsX1_at) := goodIn_app (goodIn_of _ (by decide +kernel)) ggX4_next_X1_at
theorem dX4_next_0 : decode cX4_next 0 = .ok (.iload_n 1, 1) := by decide +kernel
theorem dX4_next_1 : decode cX4_next 1 = .ok (.iconst 1, 1) := by decide +kernel
theorem dX4_next_2 : decode cX4_next 2 = .ok (.invokestatic 72, 3) := by decide +kernel
theorem dX4_next_5 : decode cX4_next 5 = .ok (.istore_n 2, 1) := by decide +kernel
theorem dX4_next_6 : decode cX4_next 6 = .ok (.iload_n 2, 1) := by decide +kernel
theorem dX4_next_7 : decode cX4_next 7 = .ok (.ifCond .eq 9, 3) := by decide +kernel
theorem dX4_next_10 : decode cX4_next 10 = .ok (.aload_n 0, 1) := by decide +kernel
theorem dX4_next_11 : decode cX4_next 11 = .ok (.iload_n 2, 1) := by decide +kernel
theorem dX4_next_12 : decode cX4_next 12 = .ok (.invokevirtual 57, 3) := by decide +kernel
theorem dX4_next_15 : decode cX4_next 15 = .ok (.ireturn, 1) := by decide +kernel
theorem dX4_next_16 : decode cX4_next 16 = .ok (.bipush (-9), 2) := by decide +kernel
theorem dX4_next_18 : decode cX4_next 18 = .ok (.istore_n 3, 1) := by decide +kernel
theorem dX4_next_19 : decode cX4_next 19 = .ok (.bipush (-9), 2) := by decide +kernel
theorem dX4_next_21 : decode cX4_next 21 = .ok (.istore 4, 2) := by decide +kernel
theorem dX4_next_23 : decode cX4_next 23 = .ok (.iconst 0, 1) := by decide +kernel
theorem dX4_next_24 : decode cX4_next 24 = .ok (.istore 5, 2) := by decide +kernel
theorem dX4_next_26 : decode cX4_next 26 = .ok (.iload 5, 2) := by decide +kernel
theorem dX4_next_28 : decode cX4_next 28 = .ok (.aload_n 0, 1) := by decide +kernel
theorem dX4_next_29 : decode cX4_next 29 = .ok (.getfield 10, 3) := by decide +kernel
theorem dX4_next_32 : decode cX4_next 32 = .ok (.getfield 159, 3) := by decide +kernel
theorem dX4_next_35 : decode cX4_next 35 = .ok (.if_icmp .ge 46, 3) := by decide +kernel
theorem dX4_next_38 : decode cX4_next 38 = .ok (.aload_n 0, 1) := by decide +kernel
theorem dX4_next_39 : decode cX4_next 39 = .ok (.getfield 10, 3) := by decide +kernel
theorem dX4_next_42 : decode cX4_next 42 = .ok (.iload 5, 2) := by decide +kernel
theorem dX4_next_44 : decode cX4_next 44 = .ok (.invokevirtual 79, 3) := by decide +kernel
theorem dX4_next_47 : decode cX4_next 47 = .ok (.getfield 92, 3) := by decide +kernel
theorem dX4_next_50 : decode cX4_next 50 = .ok (.istore 6, 2) := by decide +kernel
theorem dX4_next_52 : decode cX4_next 52 = .ok (.iload 6, 2) := by decide +kernel
theorem dX4_next_54 : decode cX4_next 54 = .ok (.ifCond .le 21, 3) := by decide +kernel
theorem dX4_next_57 : decode cX4_next 57 = .ok (.iload_n 3, 1) := by decide +kernel
theorem dX4_next_58 : decode cX4_next 58 = .ok (.ifCond .lt 10, 3) := by decide +kernel
theorem dX4_next_61 : decode cX4_next 61 = .ok (.iload 6, 2) := by decide +kernel
theorem dX4_next_63 : decode cX4_next 63 = .ok (.iload 4, 2) := by decide +kernel
theorem dX4_next_65 : decode cX4_next 65 = .ok (.if_icmp .ge 10, 3) := by decide +kernel
theorem dX4_next_68 : decode cX4_next 68 = .ok (.iload 5, 2) := by decide +kernel
theorem dX4_next_70 : decode cX4_next 70 = .ok (.istore_n 3, 1) := by decide +kernel
theorem dX4_next_71 : decode cX4_next 71 = .ok (.iload 6, 2) := by decide +kernel
theorem dX4_next_73 : decode cX4_next 73 = .ok (.istore 4, 2) := by decide +kernel
theorem dX4_next_75 : decode cX4_next 75 = .ok (.iinc 5 1, 3) := by decide +kernel
theorem dX4_next_78 : decode cX4_next 78 = .ok (.goto (-52), 3) := by decide +kernel
theorem dX4_next_81 : decode cX4_next 81 = .ok (.iload_n 1, 1) := by decide +kernel
theorem dX4_next_82 : decode cX4_next 82 = .ok (.ifCond .ne 7, 3) := by decide +kernel
theorem dX4_next_85 : decode cX4_next 85 = .ok (.iload_n 3, 1) := by decide +kernel
theorem dX4_next_86 : decode cX4_next 86 = .ok (.goto 5, 3) := by decide +kernel
theorem dX4_next_89 : decode cX4_next 89 = .ok (.iload 4, 2) := by decide +kernel
theorem dX4_next_91 : decode cX4_next 91 = .ok (.ireturn, 1) := by decide +kernel
set_option maxRecDepth 20000 in
theorem ggX4_enough_X4_unknown : GoodIn wsX4_enough wsX4_unknown := goodIn_r _ [6, 7, 8, 9, 10, 11, 12, 13, 76, 77, 78, 79, 80, 81, 82, 83, 84, 85, 86, 87, 88, 89, 90, 91, 92] (by decide +kernel) (by decide +kernel)
set_option maxRecDepth 20000 in
theorem gX4_enough_X4_unknown : GoodIn wsX4_enough (wsV RX4 69 RX4 yX4_unknown wsX4_unknown) := goodIn_app (goodIn_of _ (by decide +kernel)) ggX4_enough_X4_unknown
set_option maxRecDepth 20000 in
theorem ggX4_enough_X4_outside : GoodIn wsX4_enough wsX4_outside := goodIn_r _ [16] (by decide +kernel) (by decide +kernel)
set_option maxRecDepth 20000 in
theorem gX4_enough_X4_outside : GoodIn wsX4_enough (va_wsS RX4 49 yX4_outside wsX4_outside) := goodIn_app (goodIn_of _ (by decide +kernel)) ggX4_enough_X4_outside
set_option maxRecDepth 20000 in
theorem ggX4_enough_X4_firstOf : GoodIn wsX4_enough wsX4_firstOf := goodIn_r _ [19] (by decide +kernel) (by decide +kernel)
set_option maxRecDepth 20000 in
theorem gX4_enough_X4_firstOf : GoodIn wsX4_enough (va_wsS RX4 76 yX4_firstOf wsX4_firstOf) := goodIn_app (goodIn_of _ (by decide +kernel)) ggX4_enough_X4_firstOf
set_option maxRecDepth 20000 in
theorem ggX4_enough_X4_refused : GoodIn wsX4_enough wsX4_refused := goodIn_r _ [23, 24, 76, 77, 78, 79, 80, 81, 82, 83, 84, 85, 86] (by decide +kernel) (by decide +kernel)
set_option maxRecDepth 20000 in
theorem gX4_enough_X4_refused : GoodIn wsX4_enough (wsV RX4 57 RX4 yX4_refused wsX4_refused) := goodIn_app (goodIn_of _ (by decide +kernel)) ggX4_enough_X4_refused
set_option maxRecDepth 20000 in
theorem ggX4_enough_X4_thought : GoodIn wsX4_enough wsX4_thought := goodIn_r _ [28, 29, 7, 30, 31, 32, 33, 11, 34, 35, 36, 37, 38, 39, 40, 41, 42, 43, 44, 45, 46, 47, 48, 49, 50, 51, 52, 53, 54, 55, 56, 57, 58, 59, 60, 61, 62, 63, 64, 65, 66, 67, 76, 77, 78, 79, 80, 81, 82, 83, 84, 85, 86, 68, 69, 70, 71, 72, 73, 74, 75, 87, 88, 89, 90, 91, 92] (by decide +kernel) (by decide +kernel)
set_option maxRecDepth 20000 in
theorem gX4_enough_X4_thought : GoodIn wsX4_enough (wsV RX4 130 RX4 yX4_thought wsX4_thought) := goodIn_app (goodIn_of _ (by decide +kernel)) ggX4_enough_X4_thought
theorem dX4_enough_0 : decode cX4_enough 0 = .ok (.aload_n 0, 1) := by decide +kernel
theorem dX4_enough_1 : decode cX4_enough 1 = .ok (.iload_n 1, 1) := by decide +kernel
theorem dX4_enough_2 : decode cX4_enough 2 = .ok (.invokevirtual 69, 3) := by decide +kernel
theorem dX4_enough_5 : decode cX4_enough 5 = .ok (.iload_n 2, 1) := by decide +kernel
theorem dX4_enough_6 : decode cX4_enough 6 = .ok (.iconst 1, 1) := by decide +kernel
theorem dX4_enough_7 : decode cX4_enough 7 = .ok (.bipush 60, 2) := by decide +kernel
theorem dX4_enough_9 : decode cX4_enough 9 = .ok (.invokestatic 49, 3) := by decide +kernel
theorem dX4_enough_12 : decode cX4_enough 12 = .ok (.iconst 0, 1) := by decide +kernel
theorem dX4_enough_13 : decode cX4_enough 13 = .ok (.invokestatic 76, 3) := by decide +kernel
theorem dX4_enough_16 : decode cX4_enough 16 = .ok (.istore_n 3, 1) := by decide +kernel
theorem dX4_enough_17 : decode cX4_enough 17 = .ok (.iload_n 3, 1) := by decide +kernel
theorem dX4_enough_18 : decode cX4_enough 18 = .ok (.ifCond .eq 9, 3) := by decide +kernel
theorem dX4_enough_21 : decode cX4_enough 21 = .ok (.aload_n 0, 1) := by decide +kernel
theorem dX4_enough_22 : decode cX4_enough 22 = .ok (.iload_n 3, 1) := by decide +kernel
theorem dX4_enough_23 : decode cX4_enough 23 = .ok (.invokevirtual 57, 3) := by decide +kernel
theorem dX4_enough_26 : decode cX4_enough 26 = .ok (.ireturn, 1) := by decide +kernel
theorem dX4_enough_27 : decode cX4_enough 27 = .ok (.iconst 0, 1) := by decide +kernel
theorem dX4_enough_28 : decode cX4_enough 28 = .ok (.istore 4, 2) := by decide +kernel
theorem dX4_enough_30 : decode cX4_enough 30 = .ok (.iload 4, 2) := by decide +kernel
theorem dX4_enough_32 : decode cX4_enough 32 = .ok (.bipush 99, 2) := by decide +kernel
theorem dX4_enough_34 : decode cX4_enough 34 = .ok (.if_icmp .gt 26, 3) := by decide +kernel
theorem dX4_enough_37 : decode cX4_enough 37 = .ok (.aload_n 0, 1) := by decide +kernel
theorem dX4_enough_38 : decode cX4_enough 38 = .ok (.iload_n 1, 1) := by decide +kernel
theorem dX4_enough_39 : decode cX4_enough 39 = .ok (.iload 4, 2) := by decide +kernel
theorem dX4_enough_41 : decode cX4_enough 41 = .ok (.iload_n 2, 1) := by decide +kernel
theorem dX4_enough_42 : decode cX4_enough 42 = .ok (.invokevirtual 130, 3) := by decide +kernel
theorem dX4_enough_45 : decode cX4_enough 45 = .ok (.getfield 150, 3) := by decide +kernel
theorem dX4_enough_48 : decode cX4_enough 48 = .ok (.ifCond .ne 6, 3) := by decide +kernel
theorem dX4_enough_51 : decode cX4_enough 51 = .ok (.iload 4, 2) := by decide +kernel
theorem dX4_enough_53 : decode cX4_enough 53 = .ok (.ireturn, 1) := by decide +kernel
theorem dX4_enough_54 : decode cX4_enough 54 = .ok (.iinc 4 1, 3) := by decide +kernel
theorem dX4_enough_57 : decode cX4_enough 57 = .ok (.goto (-27), 3) := by decide +kernel
theorem dX4_enough_60 : decode cX4_enough 60 = .ok (.bipush (-9), 2) := by decide +kernel
theorem dX4_enough_62 : decode cX4_enough 62 = .ok (.ireturn, 1) := by decide +kernel
set_option maxRecDepth 20000 in
theorem ggX4_serve_X4_other : GoodIn wsX4_serve wsX4_other := goodIn_r _ [7] (by decide +kernel) (by decide +kernel)
set_option maxRecDepth 20000 in
theorem gX4_serve_X4_other : GoodIn wsX4_serve (va_wsS RX4 72 yX4_other wsX4_other) := goodIn_app (goodIn_of _ (by decide +kernel)) ggX4_serve_X4_other
set_option maxRecDepth 20000 in
theorem ggX4_serve_X4_refused : GoodIn wsX4_serve wsX4_refused := goodIn_r _ [11, 12, 57, 58, 59, 60, 61, 62, 63, 64, 65, 66, 67] (by decide +kernel) (by decide +kernel)
set_option maxRecDepth 20000 in
theorem gX4_serve_X4_refused : GoodIn wsX4_serve (wsV RX4 57 RX4 yX4_refused wsX4_refused) := goodIn_app (goodIn_of _ (by decide +kernel)) ggX4_serve_X4_refused
set_option maxRecDepth 20000 in
theorem ggX4_serve_J6_bitCount_0f7a4 : GoodIn wsX4_serve wsJ6_bitCount_0f7a4 := goodIn_r _ [16, 17, 18, 19] (by decide +kernel) (by decide +kernel)
set_option maxRecDepth 20000 in
theorem gX4_serve_J6_bitCount_0f7a4 : GoodIn wsX4_serve (va_wsS RX4 162 yJ6_bitCount_0f7a4 wsJ6_bitCount_0f7a4) := goodIn_app (goodIn_of _ (by decide +kernel)) ggX4_serve_J6_bitCount_0f7a4
set_option maxRecDepth 20000 in
theorem ggX4_serve_X1_lackAll : GoodIn wsX4_serve wsX1_lackAll := goodIn_r _ [24, 25, 26, 27, 28, 23, 29, 30, 31, 32, 33, 34, 35, 36, 37, 38, 39, 40, 41, 42, 43, 44, 45, 46, 47, 48, 49, 50, 51, 52, 68, 69, 70, 71, 72, 73, 74, 75, 76, 77, 78, 79, 80, 81] (by decide +kernel) (by decide +kernel)
set_option maxRecDepth 20000 in
theorem gX4_serve_X1_lackAll : GoodIn wsX4_serve (wsV RX4 167 RX1 yX1_lackAll wsX1_lackAll) := goodIn_app (goodIn_of _ (by decide +kernel)) ggX4_serve_X1_lackAll
set_option maxRecDepth 20000 in
theorem ggX4_serve_X1_lackOf : GoodIn wsX4_serve wsX1_lackOf := goodIn_r _ [56, 25, 26, 27, 28, 23, 29, 30, 31, 32, 33, 34, 35, 36, 37, 38, 39, 40, 41, 42, 43, 44, 45, 46, 47, 48, 49, 50, 51, 52, 68, 69, 70, 71, 72, 73, 74, 75, 76, 77, 78, 79, 80, 81] (by decide +kernel) (by decide +kernel)
set_option maxRecDepth 20000 in
theorem gX4_serve_X1_lackOf : GoodIn wsX4_serve (wsV RX4 170 RX1 yX1_lackOf wsX1_lackOf) := goodIn_app (goodIn_of _ (by decide +kernel)) ggX4_serve_X1_lackOf
theorem dX4_serve_0 : decode cX4_serve 0 = .ok (.iload_n 1, 1) := by decide +kernel
theorem dX4_serve_1 : decode cX4_serve 1 = .ok (.iconst 2, 1) := by decide +kernel
theorem dX4_serve_2 : decode cX4_serve 2 = .ok (.invokestatic 72, 3) := by decide +kernel
theorem dX4_serve_5 : decode cX4_serve 5 = .ok (.istore_n 2, 1) := by decide +kernel
theorem dX4_serve_6 : decode cX4_serve 6 = .ok (.iload_n 2, 1) := by decide +kernel
theorem dX4_serve_7 : decode cX4_serve 7 = .ok (.ifCond .eq 9, 3) := by decide +kernel
theorem dX4_serve_10 : decode cX4_serve 10 = .ok (.aload_n 0, 1) := by decide +kernel
theorem dX4_serve_11 : decode cX4_serve 11 = .ok (.iload_n 2, 1) := by decide +kernel
theorem dX4_serve_12 : decode cX4_serve 12 = .ok (.invokevirtual 57, 3) := by decide +kernel
theorem dX4_serve_15 : decode cX4_serve 15 = .ok (.ireturn, 1) := by decide +kernel
theorem dX4_serve_16 : decode cX4_serve 16 = .ok (.iconst 0, 1) := by decide +kernel
theorem dX4_serve_17 : decode cX4_serve 17 = .ok (.istore_n 3, 1) := by decide +kernel
theorem dX4_serve_18 : decode cX4_serve 18 = .ok (.iconst 0, 1) := by decide +kernel
theorem dX4_serve_19 : decode cX4_serve 19 = .ok (.istore 4, 2) := by decide +kernel
theorem dX4_serve_21 : decode cX4_serve 21 = .ok (.iconst 1, 1) := by decide +kernel
theorem dX4_serve_22 : decode cX4_serve 22 = .ok (.istore 5, 2) := by decide +kernel
theorem dX4_serve_24 : decode cX4_serve 24 = .ok (.iload 5, 2) := by decide +kernel
theorem dX4_serve_26 : decode cX4_serve 26 = .ok (.iconst 1, 1) := by decide +kernel
theorem dX4_serve_27 : decode cX4_serve 27 = .ok (.aload_n 0, 1) := by decide +kernel
theorem dX4_serve_28 : decode cX4_serve 28 = .ok (.getfield 10, 3) := by decide +kernel
theorem dX4_serve_31 : decode cX4_serve 31 = .ok (.getfield 159, 3) := by decide +kernel
theorem dX4_serve_34 : decode cX4_serve 34 = .ok (.ishl, 1) := by decide +kernel
theorem dX4_serve_35 : decode cX4_serve 35 = .ok (.if_icmp .ge 60, 3) := by decide +kernel
theorem dX4_serve_38 : decode cX4_serve 38 = .ok (.iload 5, 2) := by decide +kernel
theorem dX4_serve_40 : decode cX4_serve 40 = .ok (.invokestatic 162, 3) := by decide +kernel
theorem dX4_serve_43 : decode cX4_serve 43 = .ok (.istore 6, 2) := by decide +kernel
theorem dX4_serve_45 : decode cX4_serve 45 = .ok (.iload 6, 2) := by decide +kernel
theorem dX4_serve_47 : decode cX4_serve 47 = .ok (.iload_n 3, 1) := by decide +kernel
theorem dX4_serve_48 : decode cX4_serve 48 = .ok (.if_icmp .le 41, 3) := by decide +kernel
theorem dX4_serve_51 : decode cX4_serve 51 = .ok (.aload_n 0, 1) := by decide +kernel
theorem dX4_serve_52 : decode cX4_serve 52 = .ok (.getfield 10, 3) := by decide +kernel
theorem dX4_serve_55 : decode cX4_serve 55 = .ok (.iload 5, 2) := by decide +kernel
theorem dX4_serve_57 : decode cX4_serve 57 = .ok (.invokevirtual 167, 3) := by decide +kernel
theorem dX4_serve_60 : decode cX4_serve 60 = .ok (.ifCond .eq 29, 3) := by decide +kernel
theorem dX4_serve_63 : decode cX4_serve 63 = .ok (.aload_n 0, 1) := by decide +kernel
theorem dX4_serve_64 : decode cX4_serve 64 = .ok (.getfield 10, 3) := by decide +kernel
theorem dX4_serve_67 : decode cX4_serve 67 = .ok (.iload 5, 2) := by decide +kernel
theorem dX4_serve_69 : decode cX4_serve 69 = .ok (.invokevirtual 170, 3) := by decide +kernel
theorem dX4_serve_72 : decode cX4_serve 72 = .ok (.aload_n 0, 1) := by decide +kernel
theorem dX4_serve_73 : decode cX4_serve 73 = .ok (.getfield 10, 3) := by decide +kernel
theorem dX4_serve_76 : decode cX4_serve 76 = .ok (.getfield 111, 3) := by decide +kernel
theorem dX4_serve_79 : decode cX4_serve 79 = .ok (.if_icmp .gt 10, 3) := by decide +kernel
theorem dX4_serve_82 : decode cX4_serve 82 = .ok (.iload 6, 2) := by decide +kernel
theorem dX4_serve_84 : decode cX4_serve 84 = .ok (.istore_n 3, 1) := by decide +kernel
theorem dX4_serve_85 : decode cX4_serve 85 = .ok (.iload 5, 2) := by decide +kernel
theorem dX4_serve_87 : decode cX4_serve 87 = .ok (.istore 4, 2) := by decide +kernel
theorem dX4_serve_89 : decode cX4_serve 89 = .ok (.iinc 5 1, 3) := by decide +kernel
theorem dX4_serve_92 : decode cX4_serve 92 = .ok (.goto (-68), 3) := by decide +kernel
theorem dX4_serve_95 : decode cX4_serve 95 = .ok (.iload_n 1, 1) := by decide +kernel
theorem dX4_serve_96 : decode cX4_serve 96 = .ok (.ifCond .ne 5, 3) := by decide +kernel
theorem dX4_serve_99 : decode cX4_serve 99 = .ok (.iload_n 3, 1) := by decide +kernel
theorem dX4_serve_100 : decode cX4_serve 100 = .ok (.ireturn, 1) := by decide +kernel
theorem dX4_serve_101 : decode cX4_serve 101 = .ok (.iload_n 1, 1) := by decide +kernel
theorem dX4_serve_102 : decode cX4_serve 102 = .ok (.iconst 1, 1) := by decide +kernel
theorem dX4_serve_103 : decode cX4_serve 103 = .ok (.if_icmp .ne 8, 3) := by decide +kernel
theorem dX4_serve_106 : decode cX4_serve 106 = .ok (.iload 4, 2) := by decide +kernel
theorem dX4_serve_108 : decode cX4_serve 108 = .ok (.goto 20, 3) := by decide +kernel
theorem dX4_serve_111 : decode cX4_serve 111 = .ok (.aload_n 0, 1) := by decide +kernel
theorem dX4_serve_112 : decode cX4_serve 112 = .ok (.getfield 10, 3) := by decide +kernel
theorem dX4_serve_115 : decode cX4_serve 115 = .ok (.getfield 111, 3) := by decide +kernel
theorem dX4_serve_118 : decode cX4_serve 118 = .ok (.aload_n 0, 1) := by decide +kernel
theorem dX4_serve_119 : decode cX4_serve 119 = .ok (.getfield 10, 3) := by decide +kernel
theorem dX4_serve_122 : decode cX4_serve 122 = .ok (.iload 4, 2) := by decide +kernel
theorem dX4_serve_124 : decode cX4_serve 124 = .ok (.invokevirtual 170, 3) := by decide +kernel
theorem dX4_serve_127 : decode cX4_serve 127 = .ok (.isub, 1) := by decide +kernel
theorem dX4_serve_128 : decode cX4_serve 128 = .ok (.ireturn, 1) := by decide +kernel
set_option maxRecDepth 20000 in
theorem ggX4_best_X4_outside : GoodIn wsX4_best wsX4_outside := goodIn_r _ [6] (by decide +kernel) (by decide +kernel)
set_option maxRecDepth 20000 in
theorem gX4_best_X4_outside : GoodIn wsX4_best (va_wsS RX4 49 yX4_outside wsX4_outside) := goodIn_app (goodIn_of _ (by decide +kernel)) ggX4_best_X4_outside
set_option maxRecDepth 20000 in
theorem ggX4_best_X4_other : GoodIn wsX4_best wsX4_other := goodIn_r _ [9] (by decide +kernel) (by decide +kernel)
set_option maxRecDepth 20000 in
theorem gX4_best_X4_other : GoodIn wsX4_best (va_wsS RX4 72 yX4_other wsX4_other) := goodIn_app (goodIn_of _ (by decide +kernel)) ggX4_best_X4_other
set_option maxRecDepth 20000 in
theorem ggX4_best_X4_firstOf : GoodIn wsX4_best wsX4_firstOf := goodIn_r _ [12] (by decide +kernel) (by decide +kernel)
set_option maxRecDepth 20000 in
theorem gX4_best_X4_firstOf : GoodIn wsX4_best (va_wsS RX4 76 yX4_firstOf wsX4_firstOf) := goodIn_app (goodIn_of _ (by decide +kernel)) ggX4_best_X4_firstOf
set_option maxRecDepth 20000 in
theorem ggX4_best_X4_refused : GoodIn wsX4_best wsX4_refused := goodIn_r _ [16, 17, 93, 94, 95, 96, 97, 98, 99, 100, 101, 102, 103] (by decide +kernel) (by decide +kernel)
set_option maxRecDepth 20000 in
theorem gX4_best_X4_refused : GoodIn wsX4_best (wsV RX4 57 RX4 yX4_refused wsX4_refused) := goodIn_app (goodIn_of _ (by decide +kernel)) ggX4_best_X4_refused
set_option maxRecDepth 20000 in
theorem ggX4_best_X4_weigh : GoodIn wsX4_best wsX4_weigh := goodIn_r _ [21, 1, 2, 22, 23, 24, 25, 26, 27, 28, 29, 30, 31, 32, 33, 34, 35, 36, 37, 38, 39, 40, 41, 42, 43, 44, 45, 46, 47, 48, 49, 50, 51, 52, 53, 54, 55, 5, 56, 57, 58, 59, 60, 61, 62, 63, 64, 65, 66, 67, 68, 69, 70, 71, 72, 73, 74, 75, 76, 77, 78, 79, 80, 81, 82, 83, 93, 94, 95, 96, 97, 98, 99, 100, 101, 102, 103, 104, 105, 106, 107, 108, 109, 110, 111, 112, 113, 114, 115, 116, 117] (by decide +kernel) (by decide +kernel)
set_option maxRecDepth 20000 in
theorem gX4_best_X4_weigh : GoodIn wsX4_best (wsV RX4 173 RX4 yX4_weigh wsX4_weigh) := goodIn_app (goodIn_of _ (by decide +kernel)) ggX4_best_X4_weigh
set_option maxRecDepth 20000 in
theorem ggX4_best_X4_throughOf : GoodIn wsX4_best wsX4_throughOf := goodIn_r _ [87, 1, 88, 2, 25, 26, 27, 28, 29, 30, 31, 32, 33, 34, 35, 36, 37, 38, 39, 40, 41, 42, 43, 44, 45, 46, 47, 48, 49, 50, 51, 52, 89, 90, 91, 5, 92, 24, 23, 93, 94, 95, 96, 97, 98, 99, 100, 101, 102, 103, 104, 105, 106, 107, 108, 109, 110, 111, 112, 113, 114, 115, 116, 117] (by decide +kernel) (by decide +kernel)
set_option maxRecDepth 20000 in
theorem gX4_best_X4_throughOf : GoodIn wsX4_best (wsV RX4 176 RX4 yX4_throughOf wsX4_throughOf) := goodIn_app (goodIn_of _ (by decide +kernel)) ggX4_best_X4_throughOf
theorem dX4_best_0 : decode cX4_best 0 = .ok (.iload_n 1, 1) := by decide +kernel
theorem dX4_best_1 : decode cX4_best 1 = .ok (.iconst 1, 1) := by decide +kernel
theorem dX4_best_2 : decode cX4_best 2 = .ok (.bipush 30, 2) := by decide +kernel
theorem dX4_best_4 : decode cX4_best 4 = .ok (.invokestatic 49, 3) := by decide +kernel
theorem dX4_best_7 : decode cX4_best 7 = .ok (.iload_n 2, 1) := by decide +kernel
theorem dX4_best_8 : decode cX4_best 8 = .ok (.iconst 1, 1) := by decide +kernel
theorem dX4_best_9 : decode cX4_best 9 = .ok (.invokestatic 72, 3) := by decide +kernel
theorem dX4_best_12 : decode cX4_best 12 = .ok (.iconst 0, 1) := by decide +kernel
theorem dX4_best_13 : decode cX4_best 13 = .ok (.invokestatic 76, 3) := by decide +kernel
theorem dX4_best_16 : decode cX4_best 16 = .ok (.istore_n 3, 1) := by decide +kernel
theorem dX4_best_17 : decode cX4_best 17 = .ok (.iload_n 3, 1) := by decide +kernel
theorem dX4_best_18 : decode cX4_best 18 = .ok (.ifCond .eq 9, 3) := by decide +kernel
theorem dX4_best_21 : decode cX4_best 21 = .ok (.aload_n 0, 1) := by decide +kernel
theorem dX4_best_22 : decode cX4_best 22 = .ok (.iload_n 3, 1) := by decide +kernel
theorem dX4_best_23 : decode cX4_best 23 = .ok (.invokevirtual 57, 3) := by decide +kernel
theorem dX4_best_26 : decode cX4_best 26 = .ok (.ireturn, 1) := by decide +kernel
theorem dX4_best_27 : decode cX4_best 27 = .ok (.aload_n 0, 1) := by decide +kernel
theorem dX4_best_28 : decode cX4_best 28 = .ok (.iload_n 1, 1) := by decide +kernel
theorem dX4_best_29 : decode cX4_best 29 = .ok (.invokevirtual 173, 3) := by decide +kernel
theorem dX4_best_32 : decode cX4_best 32 = .ok (.bipush (-9), 2) := by decide +kernel
theorem dX4_best_34 : decode cX4_best 34 = .ok (.istore 4, 2) := by decide +kernel
theorem dX4_best_36 : decode cX4_best 36 = .ok (.iconst 0, 1) := by decide +kernel
theorem dX4_best_37 : decode cX4_best 37 = .ok (.istore 5, 2) := by decide +kernel
theorem dX4_best_39 : decode cX4_best 39 = .ok (.iconst 0, 1) := by decide +kernel
theorem dX4_best_40 : decode cX4_best 40 = .ok (.istore 6, 2) := by decide +kernel
theorem dX4_best_42 : decode cX4_best 42 = .ok (.iload 6, 2) := by decide +kernel
theorem dX4_best_44 : decode cX4_best 44 = .ok (.iconst 1, 1) := by decide +kernel
theorem dX4_best_45 : decode cX4_best 45 = .ok (.aload_n 0, 1) := by decide +kernel
theorem dX4_best_46 : decode cX4_best 46 = .ok (.getfield 10, 3) := by decide +kernel
theorem dX4_best_49 : decode cX4_best 49 = .ok (.getfield 159, 3) := by decide +kernel
theorem dX4_best_52 : decode cX4_best 52 = .ok (.ishl, 1) := by decide +kernel
theorem dX4_best_53 : decode cX4_best 53 = .ok (.if_icmp .ge 32, 3) := by decide +kernel
theorem dX4_best_56 : decode cX4_best 56 = .ok (.aload_n 0, 1) := by decide +kernel
theorem dX4_best_57 : decode cX4_best 57 = .ok (.iload 6, 2) := by decide +kernel
theorem dX4_best_59 : decode cX4_best 59 = .ok (.invokevirtual 176, 3) := by decide +kernel
theorem dX4_best_62 : decode cX4_best 62 = .ok (.istore 7, 2) := by decide +kernel
theorem dX4_best_64 : decode cX4_best 64 = .ok (.iload 7, 2) := by decide +kernel
theorem dX4_best_66 : decode cX4_best 66 = .ok (.iload 4, 2) := by decide +kernel
theorem dX4_best_68 : decode cX4_best 68 = .ok (.if_icmp .le 11, 3) := by decide +kernel
theorem dX4_best_71 : decode cX4_best 71 = .ok (.iload 7, 2) := by decide +kernel
theorem dX4_best_73 : decode cX4_best 73 = .ok (.istore 4, 2) := by decide +kernel
theorem dX4_best_75 : decode cX4_best 75 = .ok (.iload 6, 2) := by decide +kernel
theorem dX4_best_77 : decode cX4_best 77 = .ok (.istore 5, 2) := by decide +kernel
theorem dX4_best_79 : decode cX4_best 79 = .ok (.iinc 6 1, 3) := by decide +kernel
theorem dX4_best_82 : decode cX4_best 82 = .ok (.goto (-40), 3) := by decide +kernel
theorem dX4_best_85 : decode cX4_best 85 = .ok (.iload_n 2, 1) := by decide +kernel
theorem dX4_best_86 : decode cX4_best 86 = .ok (.ifCond .ne 8, 3) := by decide +kernel
theorem dX4_best_89 : decode cX4_best 89 = .ok (.iload 4, 2) := by decide +kernel
theorem dX4_best_91 : decode cX4_best 91 = .ok (.goto 5, 3) := by decide +kernel
theorem dX4_best_94 : decode cX4_best 94 = .ok (.iload 5, 2) := by decide +kernel
theorem dX4_best_96 : decode cX4_best 96 = .ok (.ireturn, 1) := by decide +kernel
set_option maxRecDepth 20000 in
theorem ggX4_run_X4_other : GoodIn wsX4_run wsX4_other := goodIn_r _ [6] (by decide +kernel) (by decide +kernel)
set_option maxRecDepth 20000 in
theorem gX4_run_X4_other : GoodIn wsX4_run (va_wsS RX4 72 yX4_other wsX4_other) := goodIn_app (goodIn_of _ (by decide +kernel)) ggX4_run_X4_other
set_option maxRecDepth 20000 in
theorem ggX4_run_X4_refused : GoodIn wsX4_run wsX4_refused := goodIn_r _ [10, 11, 92, 93, 94, 95, 96, 97, 98, 99, 100, 101, 102] (by decide +kernel) (by decide +kernel)
set_option maxRecDepth 20000 in
theorem gX4_run_X4_refused : GoodIn wsX4_run (wsV RX4 57 RX4 yX4_refused wsX4_refused) := goodIn_app (goodIn_of _ (by decide +kernel)) ggX4_run_X4_refused
set_option maxRecDepth 20000 in
theorem ggX4_run_X1_takeFrom : GoodIn wsX4_run wsX1_takeFrom := goodIn_r _ [16, 17, 18, 19, 20, 21, 22, 23, 15, 24, 25, 26, 27, 28, 29, 30, 31, 32, 33, 34, 35, 36, 37, 38, 39, 103, 104, 105, 106, 107, 108, 109, 110, 111, 112, 113, 114, 115, 116] (by decide +kernel) (by decide +kernel)
set_option maxRecDepth 20000 in
theorem gX4_run_X1_takeFrom : GoodIn wsX4_run (wsV RX4 134 RX1 yX1_takeFrom wsX1_takeFrom) := goodIn_app (goodIn_of _ (by decide +kernel)) ggX4_run_X1_takeFrom
set_option maxRecDepth 20000 in
theorem ggX4_run_X1_issueAhead : GoodIn wsX4_run wsX1_issueAhead := goodIn_r _ [43, 17, 44, 21, 22, 23, 15, 24, 25, 26, 45, 46, 47, 30, 48, 35, 34, 49, 50, 51, 52, 53, 54, 55, 56, 32, 33, 57, 58, 59, 60, 61, 62, 63, 64, 18, 65, 66, 67, 68, 69, 103, 104, 105, 106, 107, 108, 109, 110, 111, 112, 113, 114, 115, 116] (by decide +kernel) (by decide +kernel)
set_option maxRecDepth 20000 in
theorem gX4_run_X1_issueAhead : GoodIn wsX4_run (wsV RX4 179 RX1 yX1_issueAhead wsX1_issueAhead) := goodIn_app (goodIn_of _ (by decide +kernel)) ggX4_run_X1_issueAhead
set_option maxRecDepth 20000 in
theorem ggX4_run_X1_daysGoBy : GoodIn wsX4_run wsX1_daysGoBy := goodIn_r _ [73, 20, 17, 21, 22, 23, 15, 24, 25, 26, 74, 75, 76, 30, 77, 35, 32, 33, 34, 38, 36, 78, 79, 51, 80, 39, 37, 57, 58, 59, 60, 81, 82, 83, 84, 85, 86, 87, 88, 89, 90, 19, 91, 103, 104, 105, 106, 107, 108, 109, 110, 111, 112, 113, 114, 115, 116] (by decide +kernel) (by decide +kernel)
set_option maxRecDepth 20000 in
theorem gX4_run_X1_daysGoBy : GoodIn wsX4_run (wsV RX4 127 RX1 yX1_daysGoBy wsX1_daysGoBy) := goodIn_app (goodIn_of _ (by decide +kernel)) ggX4_run_X1_daysGoBy
theorem dX4_run_0 : decode cX4_run 0 = .ok (.iload_n 1, 1) := by decide +kernel
theorem dX4_run_1 : decode cX4_run 1 = .ok (.iconst 1, 1) := by decide +kernel
theorem dX4_run_2 : decode cX4_run 2 = .ok (.invokestatic 72, 3) := by decide +kernel
theorem dX4_run_5 : decode cX4_run 5 = .ok (.istore_n 2, 1) := by decide +kernel
theorem dX4_run_6 : decode cX4_run 6 = .ok (.iload_n 2, 1) := by decide +kernel
theorem dX4_run_7 : decode cX4_run 7 = .ok (.ifCond .eq 9, 3) := by decide +kernel
theorem dX4_run_10 : decode cX4_run 10 = .ok (.aload_n 0, 1) := by decide +kernel
theorem dX4_run_11 : decode cX4_run 11 = .ok (.iload_n 2, 1) := by decide +kernel
theorem dX4_run_12 : decode cX4_run 12 = .ok (.invokevirtual 57, 3) := by decide +kernel
theorem dX4_run_15 : decode cX4_run 15 = .ok (.ireturn, 1) := by decide +kernel
theorem dX4_run_16 : decode cX4_run 16 = .ok (.aload_n 0, 1) := by decide +kernel
theorem dX4_run_17 : decode cX4_run 17 = .ok (.getfield 16, 3) := by decide +kernel
theorem dX4_run_20 : decode cX4_run 20 = .ok (.aload_n 0, 1) := by decide +kernel
theorem dX4_run_21 : decode cX4_run 21 = .ok (.getfield 10, 3) := by decide +kernel
theorem dX4_run_24 : decode cX4_run 24 = .ok (.invokevirtual 134, 3) := by decide +kernel
theorem dX4_run_27 : decode cX4_run 27 = .ok (.iconst 0, 1) := by decide +kernel
theorem dX4_run_28 : decode cX4_run 28 = .ok (.istore_n 3, 1) := by decide +kernel
theorem dX4_run_29 : decode cX4_run 29 = .ok (.iload_n 3, 1) := by decide +kernel
theorem dX4_run_30 : decode cX4_run 30 = .ok (.bipush 60, 2) := by decide +kernel
theorem dX4_run_32 : decode cX4_run 32 = .ok (.if_icmp .gt 42, 3) := by decide +kernel
theorem dX4_run_35 : decode cX4_run 35 = .ok (.aload_n 0, 1) := by decide +kernel
theorem dX4_run_36 : decode cX4_run 36 = .ok (.getfield 16, 3) := by decide +kernel
theorem dX4_run_39 : decode cX4_run 39 = .ok (.invokevirtual 179, 3) := by decide +kernel
theorem dX4_run_42 : decode cX4_run 42 = .ok (.istore 4, 2) := by decide +kernel
theorem dX4_run_44 : decode cX4_run 44 = .ok (.iload 4, 2) := by decide +kernel
theorem dX4_run_46 : decode cX4_run 46 = .ok (.ifCond .lt 14, 3) := by decide +kernel
theorem dX4_run_49 : decode cX4_run 49 = .ok (.iload_n 1, 1) := by decide +kernel
theorem dX4_run_50 : decode cX4_run 50 = .ok (.ifCond .ne 7, 3) := by decide +kernel
theorem dX4_run_53 : decode cX4_run 53 = .ok (.iload_n 3, 1) := by decide +kernel
theorem dX4_run_54 : decode cX4_run 54 = .ok (.goto 5, 3) := by decide +kernel
theorem dX4_run_57 : decode cX4_run 57 = .ok (.iload 4, 2) := by decide +kernel
theorem dX4_run_59 : decode cX4_run 59 = .ok (.ireturn, 1) := by decide +kernel
theorem dX4_run_60 : decode cX4_run 60 = .ok (.aload_n 0, 1) := by decide +kernel
theorem dX4_run_61 : decode cX4_run 61 = .ok (.getfield 16, 3) := by decide +kernel
theorem dX4_run_64 : decode cX4_run 64 = .ok (.iconst 1, 1) := by decide +kernel
theorem dX4_run_65 : decode cX4_run 65 = .ok (.invokevirtual 127, 3) := by decide +kernel
theorem dX4_run_68 : decode cX4_run 68 = .ok (.iinc 3 1, 3) := by decide +kernel
theorem dX4_run_71 : decode cX4_run 71 = .ok (.goto (-42), 3) := by decide +kernel
theorem dX4_run_74 : decode cX4_run 74 = .ok (.bipush (-9), 2) := by decide +kernel
theorem dX4_run_76 : decode cX4_run 76 = .ok (.ireturn, 1) := by decide +kernel
set_option maxRecDepth 20000 in
theorem ggX4_stock_X4_outside : GoodIn wsX4_stock wsX4_outside := goodIn_r _ [7] (by decide +kernel) (by decide +kernel)
set_option maxRecDepth 20000 in
theorem gX4_stock_X4_outside : GoodIn wsX4_stock (va_wsS RX4 49 yX4_outside wsX4_outside) := goodIn_app (goodIn_of _ (by decide +kernel)) ggX4_stock_X4_outside
set_option maxRecDepth 20000 in
theorem ggX4_stock_X4_refused : GoodIn wsX4_stock wsX4_refused := goodIn_r _ [11, 12, 93, 94, 95, 96, 97, 98, 99, 100, 101, 102, 103] (by decide +kernel) (by decide +kernel)
set_option maxRecDepth 20000 in
theorem gX4_stock_X4_refused : GoodIn wsX4_stock (wsV RX4 57 RX4 yX4_refused wsX4_refused) := goodIn_app (goodIn_of _ (by decide +kernel)) ggX4_stock_X4_refused
set_option maxRecDepth 20000 in
theorem ggX4_stock_X1_takeFrom : GoodIn wsX4_stock wsX1_takeFrom := goodIn_r _ [17, 18, 19, 20, 21, 22, 23, 24, 16, 25, 26, 27, 28, 29, 30, 31, 32, 33, 34, 35, 36, 37, 38, 39, 40, 104, 105, 106, 107, 108, 109, 110, 111, 112, 113, 114, 115, 116, 117] (by decide +kernel) (by decide +kernel)
set_option maxRecDepth 20000 in
theorem gX4_stock_X1_takeFrom : GoodIn wsX4_stock (wsV RX4 134 RX1 yX1_takeFrom wsX1_takeFrom) := goodIn_app (goodIn_of _ (by decide +kernel)) ggX4_stock_X1_takeFrom
set_option maxRecDepth 20000 in
theorem ggX4_stock_X1_issueAhead : GoodIn wsX4_stock wsX1_issueAhead := goodIn_r _ [44, 18, 45, 22, 23, 24, 16, 25, 26, 27, 46, 47, 48, 31, 49, 36, 35, 50, 51, 52, 53, 54, 55, 56, 57, 33, 34, 58, 59, 60, 61, 62, 63, 64, 65, 19, 66, 67, 68, 69, 70, 104, 105, 106, 107, 108, 109, 110, 111, 112, 113, 114, 115, 116, 117] (by decide +kernel) (by decide +kernel)
set_option maxRecDepth 20000 in
theorem gX4_stock_X1_issueAhead : GoodIn wsX4_stock (wsV RX4 179 RX1 yX1_issueAhead wsX1_issueAhead) := goodIn_app (goodIn_of _ (by decide +kernel)) ggX4_stock_X1_issueAhead
set_option maxRecDepth 20000 in
theorem ggX4_stock_X1_daysGoBy : GoodIn wsX4_stock wsX1_daysGoBy := goodIn_r _ [74, 21, 18, 22, 23, 24, 16, 25, 26, 27, 75, 76, 77, 31, 78, 36, 33, 34, 35, 39, 37, 79, 80, 52, 81, 40, 38, 58, 59, 60, 61, 82, 83, 84, 85, 86, 87, 88, 89, 90, 91, 20, 92, 104, 105, 106, 107, 108, 109, 110, 111, 112, 113, 114, 115, 116, 117] (by decide +kernel) (by decide +kernel)
set_option maxRecDepth 20000 in
theorem gX4_stock_X1_daysGoBy : GoodIn wsX4_stock (wsV RX4 127 RX1 yX1_daysGoBy wsX1_daysGoBy) := goodIn_app (goodIn_of _ (by decide +kernel)) ggX4_stock_X1_daysGoBy
theorem dX4_stock_0 : decode cX4_stock 0 = .ok (.iload_n 1, 1) := by decide +kernel
theorem dX4_stock_1 : decode cX4_stock 1 = .ok (.iconst 1, 1) := by decide +kernel
theorem dX4_stock_2 : decode cX4_stock 2 = .ok (.bipush 30, 2) := by decide +kernel
theorem dX4_stock_4 : decode cX4_stock 4 = .ok (.invokestatic 49, 3) := by decide +kernel
theorem dX4_stock_7 : decode cX4_stock 7 = .ok (.istore_n 2, 1) := by decide +kernel
theorem dX4_stock_8 : decode cX4_stock 8 = .ok (.iload_n 2, 1) := by decide +kernel
theorem dX4_stock_9 : decode cX4_stock 9 = .ok (.ifCond .eq 9, 3) := by decide +kernel
theorem dX4_stock_12 : decode cX4_stock 12 = .ok (.aload_n 0, 1) := by decide +kernel
theorem dX4_stock_13 : decode cX4_stock 13 = .ok (.iload_n 2, 1) := by decide +kernel
theorem dX4_stock_14 : decode cX4_stock 14 = .ok (.invokevirtual 57, 3) := by decide +kernel
theorem dX4_stock_17 : decode cX4_stock 17 = .ok (.ireturn, 1) := by decide +kernel
theorem dX4_stock_18 : decode cX4_stock 18 = .ok (.aload_n 0, 1) := by decide +kernel
theorem dX4_stock_19 : decode cX4_stock 19 = .ok (.getfield 16, 3) := by decide +kernel
theorem dX4_stock_22 : decode cX4_stock 22 = .ok (.aload_n 0, 1) := by decide +kernel
theorem dX4_stock_23 : decode cX4_stock 23 = .ok (.getfield 10, 3) := by decide +kernel
theorem dX4_stock_26 : decode cX4_stock 26 = .ok (.invokevirtual 134, 3) := by decide +kernel
theorem dX4_stock_29 : decode cX4_stock 29 = .ok (.aload_n 0, 1) := by decide +kernel
theorem dX4_stock_30 : decode cX4_stock 30 = .ok (.getfield 16, 3) := by decide +kernel
theorem dX4_stock_33 : decode cX4_stock 33 = .ok (.sipush 999, 3) := by decide +kernel
theorem dX4_stock_36 : decode cX4_stock 36 = .ok (.putfield 111, 3) := by decide +kernel
theorem dX4_stock_39 : decode cX4_stock 39 = .ok (.iconst 0, 1) := by decide +kernel
theorem dX4_stock_40 : decode cX4_stock 40 = .ok (.istore_n 3, 1) := by decide +kernel
theorem dX4_stock_41 : decode cX4_stock 41 = .ok (.iload_n 3, 1) := by decide +kernel
theorem dX4_stock_42 : decode cX4_stock 42 = .ok (.iload_n 1, 1) := by decide +kernel
theorem dX4_stock_43 : decode cX4_stock 43 = .ok (.if_icmp .ge 30, 3) := by decide +kernel
theorem dX4_stock_46 : decode cX4_stock 46 = .ok (.aload_n 0, 1) := by decide +kernel
theorem dX4_stock_47 : decode cX4_stock 47 = .ok (.getfield 16, 3) := by decide +kernel
theorem dX4_stock_50 : decode cX4_stock 50 = .ok (.invokevirtual 179, 3) := by decide +kernel
theorem dX4_stock_53 : decode cX4_stock 53 = .ok (.ifCond .lt 6, 3) := by decide +kernel
theorem dX4_stock_56 : decode cX4_stock 56 = .ok (.bipush (-9), 2) := by decide +kernel
theorem dX4_stock_58 : decode cX4_stock 58 = .ok (.ireturn, 1) := by decide +kernel
theorem dX4_stock_59 : decode cX4_stock 59 = .ok (.aload_n 0, 1) := by decide +kernel
theorem dX4_stock_60 : decode cX4_stock 60 = .ok (.getfield 16, 3) := by decide +kernel
theorem dX4_stock_63 : decode cX4_stock 63 = .ok (.iconst 1, 1) := by decide +kernel
theorem dX4_stock_64 : decode cX4_stock 64 = .ok (.invokevirtual 127, 3) := by decide +kernel
theorem dX4_stock_67 : decode cX4_stock 67 = .ok (.iinc 3 1, 3) := by decide +kernel
theorem dX4_stock_70 : decode cX4_stock 70 = .ok (.goto (-29), 3) := by decide +kernel
theorem dX4_stock_73 : decode cX4_stock 73 = .ok (.sipush 999, 3) := by decide +kernel
theorem dX4_stock_76 : decode cX4_stock 76 = .ok (.aload_n 0, 1) := by decide +kernel
theorem dX4_stock_77 : decode cX4_stock 77 = .ok (.getfield 16, 3) := by decide +kernel
theorem dX4_stock_80 : decode cX4_stock 80 = .ok (.getfield 111, 3) := by decide +kernel
theorem dX4_stock_83 : decode cX4_stock 83 = .ok (.isub, 1) := by decide +kernel
theorem dX4_stock_84 : decode cX4_stock 84 = .ok (.ireturn, 1) := by decide +kernel
set_option maxRecDepth 20000 in
theorem ggX4_borrow_X4_unknown : GoodIn wsX4_borrow wsX4_unknown := goodIn_r _ [8, 1, 9, 10, 11, 12, 13, 14, 84, 85, 86, 87, 88, 89, 90, 91, 92, 93, 94, 103, 104, 105, 106, 107, 108] (by decide +kernel) (by decide +kernel)
set_option maxRecDepth 20000 in
theorem gX4_borrow_X4_unknown : GoodIn wsX4_borrow (wsV RX4 69 RX4 yX4_unknown wsX4_unknown) := goodIn_app (goodIn_of _ (by decide +kernel)) ggX4_borrow_X4_unknown
set_option maxRecDepth 20000 in
theorem ggX4_borrow_X4_outside : GoodIn wsX4_borrow wsX4_outside := goodIn_r _ [17] (by decide +kernel) (by decide +kernel)
set_option maxRecDepth 20000 in
theorem gX4_borrow_X4_outside : GoodIn wsX4_borrow (va_wsS RX4 49 yX4_outside wsX4_outside) := goodIn_app (goodIn_of _ (by decide +kernel)) ggX4_borrow_X4_outside
set_option maxRecDepth 20000 in
theorem ggX4_borrow_X4_firstOf : GoodIn wsX4_borrow wsX4_firstOf := goodIn_r _ [20] (by decide +kernel) (by decide +kernel)
set_option maxRecDepth 20000 in
theorem gX4_borrow_X4_firstOf : GoodIn wsX4_borrow (va_wsS RX4 76 yX4_firstOf wsX4_firstOf) := goodIn_app (goodIn_of _ (by decide +kernel)) ggX4_borrow_X4_firstOf
set_option maxRecDepth 20000 in
theorem ggX4_borrow_X4_refused : GoodIn wsX4_borrow wsX4_refused := goodIn_r _ [24, 25, 84, 85, 86, 87, 88, 89, 90, 91, 92, 93, 94] (by decide +kernel) (by decide +kernel)
set_option maxRecDepth 20000 in
theorem gX4_borrow_X4_refused : GoodIn wsX4_borrow (wsV RX4 57 RX4 yX4_refused wsX4_refused) := goodIn_app (goodIn_of _ (by decide +kernel)) ggX4_borrow_X4_refused
set_option maxRecDepth 20000 in
theorem ggX4_borrow_X1_at : GoodIn wsX4_borrow wsX1_at := goodIn_r _ [29, 30, 31, 103, 104, 105, 106, 107, 108] (by decide +kernel) (by decide +kernel)
set_option maxRecDepth 20000 in
theorem gX4_borrow_X1_at : GoodIn wsX4_borrow (wsV RX4 79 RX1 yX1_at wsX1_at) := goodIn_app (goodIn_of _ (by decide +kernel)) ggX4_borrow_X1_at
set_option maxRecDepth 20000 in
theorem ggX4_borrow_X2_lacking : GoodIn wsX4_borrow wsX2_lacking := goodIn_r _ [36, 37, 38, 39, 40, 41, 42, 43, 44, 45, 35, 46, 47, 48, 49, 50, 51, 52, 95, 96, 97, 98, 99, 100, 101, 102] (by decide +kernel) (by decide +kernel)
set_option maxRecDepth 20000 in
theorem gX4_borrow_X2_lacking : GoodIn wsX4_borrow (wsV RX4 104 RX2 yX2_lacking wsX2_lacking) := goodIn_app (goodIn_of _ (by decide +kernel)) ggX4_borrow_X2_lacking
set_option maxRecDepth 20000 in
theorem ggX4_borrow_X4_throughMore : GoodIn wsX4_borrow wsX4_throughMore := goodIn_r _ [56, 57, 1, 58, 59, 60, 7, 61, 62, 2, 26, 27, 28, 12, 29, 30, 31, 63, 64, 65, 35, 66, 47, 48, 38, 37, 67, 68, 69, 70, 71, 72, 73, 74, 75, 76, 41, 77, 49, 50, 51, 52, 78, 79, 80, 81, 82, 83, 95, 96, 97, 98, 99, 100, 101, 102, 84, 85, 86, 87, 88, 89, 90, 91, 92, 93, 94, 103, 104, 105, 106, 107, 108] (by decide +kernel) (by decide +kernel)
set_option maxRecDepth 20000 in
theorem gX4_borrow_X4_throughMore : GoodIn wsX4_borrow (wsV RX4 182 RX4 yX4_throughMore wsX4_throughMore) := goodIn_app (goodIn_of _ (by decide +kernel)) ggX4_borrow_X4_throughMore
theorem dX4_borrow_0 : decode cX4_borrow 0 = .ok (.aload_n 0, 1) := by decide +kernel
theorem dX4_borrow_1 : decode cX4_borrow 1 = .ok (.iload_n 1, 1) := by decide +kernel
theorem dX4_borrow_2 : decode cX4_borrow 2 = .ok (.invokevirtual 69, 3) := by decide +kernel
theorem dX4_borrow_5 : decode cX4_borrow 5 = .ok (.iload_n 2, 1) := by decide +kernel
theorem dX4_borrow_6 : decode cX4_borrow 6 = .ok (.iconst 1, 1) := by decide +kernel
theorem dX4_borrow_7 : decode cX4_borrow 7 = .ok (.bipush 30, 2) := by decide +kernel
theorem dX4_borrow_9 : decode cX4_borrow 9 = .ok (.invokestatic 49, 3) := by decide +kernel
theorem dX4_borrow_12 : decode cX4_borrow 12 = .ok (.iconst 0, 1) := by decide +kernel
theorem dX4_borrow_13 : decode cX4_borrow 13 = .ok (.invokestatic 76, 3) := by decide +kernel
theorem dX4_borrow_16 : decode cX4_borrow 16 = .ok (.istore_n 3, 1) := by decide +kernel
theorem dX4_borrow_17 : decode cX4_borrow 17 = .ok (.iload_n 3, 1) := by decide +kernel
theorem dX4_borrow_18 : decode cX4_borrow 18 = .ok (.ifCond .eq 9, 3) := by decide +kernel
theorem dX4_borrow_21 : decode cX4_borrow 21 = .ok (.aload_n 0, 1) := by decide +kernel
theorem dX4_borrow_22 : decode cX4_borrow 22 = .ok (.iload_n 3, 1) := by decide +kernel
theorem dX4_borrow_23 : decode cX4_borrow 23 = .ok (.invokevirtual 57, 3) := by decide +kernel
theorem dX4_borrow_26 : decode cX4_borrow 26 = .ok (.ireturn, 1) := by decide +kernel
theorem dX4_borrow_27 : decode cX4_borrow 27 = .ok (.aload_n 0, 1) := by decide +kernel
theorem dX4_borrow_28 : decode cX4_borrow 28 = .ok (.getfield 10, 3) := by decide +kernel
theorem dX4_borrow_31 : decode cX4_borrow 31 = .ok (.iload_n 1, 1) := by decide +kernel
theorem dX4_borrow_32 : decode cX4_borrow 32 = .ok (.invokevirtual 79, 3) := by decide +kernel
theorem dX4_borrow_35 : decode cX4_borrow 35 = .ok (.getfield 89, 3) := by decide +kernel
theorem dX4_borrow_38 : decode cX4_borrow 38 = .ok (.istore 4, 2) := by decide +kernel
theorem dX4_borrow_40 : decode cX4_borrow 40 = .ok (.aload_n 0, 1) := by decide +kernel
theorem dX4_borrow_41 : decode cX4_borrow 41 = .ok (.getfield 10, 3) := by decide +kernel
theorem dX4_borrow_44 : decode cX4_borrow 44 = .ok (.iload_n 1, 1) := by decide +kernel
theorem dX4_borrow_45 : decode cX4_borrow 45 = .ok (.invokevirtual 79, 3) := by decide +kernel
theorem dX4_borrow_48 : decode cX4_borrow 48 = .ok (.invokevirtual 104, 3) := by decide +kernel
theorem dX4_borrow_51 : decode cX4_borrow 51 = .ok (.istore 5, 2) := by decide +kernel
theorem dX4_borrow_53 : decode cX4_borrow 53 = .ok (.iload 5, 2) := by decide +kernel
theorem dX4_borrow_55 : decode cX4_borrow 55 = .ok (.ifCond .eq 13, 3) := by decide +kernel
theorem dX4_borrow_58 : decode cX4_borrow 58 = .ok (.iload 4, 2) := by decide +kernel
theorem dX4_borrow_60 : decode cX4_borrow 60 = .ok (.iload 5, 2) := by decide +kernel
theorem dX4_borrow_62 : decode cX4_borrow 62 = .ok (.iadd, 1) := by decide +kernel
theorem dX4_borrow_63 : decode cX4_borrow 63 = .ok (.bipush 99, 2) := by decide +kernel
theorem dX4_borrow_65 : decode cX4_borrow 65 = .ok (.if_icmp .le 6, 3) := by decide +kernel
theorem dX4_borrow_68 : decode cX4_borrow 68 = .ok (.bipush (-9), 2) := by decide +kernel
theorem dX4_borrow_70 : decode cX4_borrow 70 = .ok (.ireturn, 1) := by decide +kernel
theorem dX4_borrow_71 : decode cX4_borrow 71 = .ok (.aload_n 0, 1) := by decide +kernel
theorem dX4_borrow_72 : decode cX4_borrow 72 = .ok (.iload_n 1, 1) := by decide +kernel
theorem dX4_borrow_73 : decode cX4_borrow 73 = .ok (.iload 4, 2) := by decide +kernel
theorem dX4_borrow_75 : decode cX4_borrow 75 = .ok (.iload 5, 2) := by decide +kernel
theorem dX4_borrow_77 : decode cX4_borrow 77 = .ok (.iadd, 1) := by decide +kernel
theorem dX4_borrow_78 : decode cX4_borrow 78 = .ok (.iload_n 2, 1) := by decide +kernel
theorem dX4_borrow_79 : decode cX4_borrow 79 = .ok (.invokevirtual 182, 3) := by decide +kernel
theorem dX4_borrow_82 : decode cX4_borrow 82 = .ok (.aload_n 0, 1) := by decide +kernel
theorem dX4_borrow_83 : decode cX4_borrow 83 = .ok (.iload_n 1, 1) := by decide +kernel
theorem dX4_borrow_84 : decode cX4_borrow 84 = .ok (.iload 4, 2) := by decide +kernel
theorem dX4_borrow_86 : decode cX4_borrow 86 = .ok (.iload_n 2, 1) := by decide +kernel
theorem dX4_borrow_87 : decode cX4_borrow 87 = .ok (.invokevirtual 182, 3) := by decide +kernel
theorem dX4_borrow_90 : decode cX4_borrow 90 = .ok (.isub, 1) := by decide +kernel
theorem dX4_borrow_91 : decode cX4_borrow 91 = .ok (.istore 6, 2) := by decide +kernel
theorem dX4_borrow_93 : decode cX4_borrow 93 = .ok (.bipush (-9), 2) := by decide +kernel
theorem dX4_borrow_95 : decode cX4_borrow 95 = .ok (.istore 7, 2) := by decide +kernel
theorem dX4_borrow_97 : decode cX4_borrow 97 = .ok (.iconst 0, 1) := by decide +kernel
theorem dX4_borrow_98 : decode cX4_borrow 98 = .ok (.istore 8, 2) := by decide +kernel
theorem dX4_borrow_100 : decode cX4_borrow 100 = .ok (.iconst 0, 1) := by decide +kernel
theorem dX4_borrow_101 : decode cX4_borrow 101 = .ok (.istore 9, 2) := by decide +kernel
theorem dX4_borrow_103 : decode cX4_borrow 103 = .ok (.iload 9, 2) := by decide +kernel
theorem dX4_borrow_105 : decode cX4_borrow 105 = .ok (.aload_n 0, 1) := by decide +kernel
theorem dX4_borrow_106 : decode cX4_borrow 106 = .ok (.getfield 10, 3) := by decide +kernel
theorem dX4_borrow_109 : decode cX4_borrow 109 = .ok (.getfield 159, 3) := by decide +kernel
theorem dX4_borrow_112 : decode cX4_borrow 112 = .ok (.if_icmp .ge 81, 3) := by decide +kernel
theorem dX4_borrow_115 : decode cX4_borrow 115 = .ok (.aload_n 0, 1) := by decide +kernel
theorem dX4_borrow_116 : decode cX4_borrow 116 = .ok (.getfield 10, 3) := by decide +kernel
theorem dX4_borrow_119 : decode cX4_borrow 119 = .ok (.iload 9, 2) := by decide +kernel
theorem dX4_borrow_121 : decode cX4_borrow 121 = .ok (.invokevirtual 79, 3) := by decide +kernel
theorem dX4_borrow_124 : decode cX4_borrow 124 = .ok (.getfield 89, 3) := by decide +kernel
theorem dX4_borrow_127 : decode cX4_borrow 127 = .ok (.istore 10, 2) := by decide +kernel
theorem dX4_borrow_129 : decode cX4_borrow 129 = .ok (.iload 9, 2) := by decide +kernel
theorem dX4_borrow_131 : decode cX4_borrow 131 = .ok (.iload_n 1, 1) := by decide +kernel
theorem dX4_borrow_132 : decode cX4_borrow 132 = .ok (.if_icmp .eq 55, 3) := by decide +kernel
theorem dX4_borrow_135 : decode cX4_borrow 135 = .ok (.iload 10, 2) := by decide +kernel
theorem dX4_borrow_137 : decode cX4_borrow 137 = .ok (.iload 5, 2) := by decide +kernel
theorem dX4_borrow_139 : decode cX4_borrow 139 = .ok (.if_icmp .ge 6, 3) := by decide +kernel
theorem dX4_borrow_142 : decode cX4_borrow 142 = .ok (.goto 45, 3) := by decide +kernel
theorem dX4_borrow_145 : decode cX4_borrow 145 = .ok (.iload 6, 2) := by decide +kernel
theorem dX4_borrow_147 : decode cX4_borrow 147 = .ok (.aload_n 0, 1) := by decide +kernel
theorem dX4_borrow_148 : decode cX4_borrow 148 = .ok (.iload 9, 2) := by decide +kernel
theorem dX4_borrow_150 : decode cX4_borrow 150 = .ok (.iload 10, 2) := by decide +kernel
theorem dX4_borrow_152 : decode cX4_borrow 152 = .ok (.iload 5, 2) := by decide +kernel
theorem dX4_borrow_154 : decode cX4_borrow 154 = .ok (.isub, 1) := by decide +kernel
theorem dX4_borrow_155 : decode cX4_borrow 155 = .ok (.iload_n 2, 1) := by decide +kernel
theorem dX4_borrow_156 : decode cX4_borrow 156 = .ok (.invokevirtual 182, 3) := by decide +kernel
theorem dX4_borrow_159 : decode cX4_borrow 159 = .ok (.iadd, 1) := by decide +kernel
theorem dX4_borrow_160 : decode cX4_borrow 160 = .ok (.aload_n 0, 1) := by decide +kernel
theorem dX4_borrow_161 : decode cX4_borrow 161 = .ok (.iload 9, 2) := by decide +kernel
theorem dX4_borrow_163 : decode cX4_borrow 163 = .ok (.iload 10, 2) := by decide +kernel
theorem dX4_borrow_165 : decode cX4_borrow 165 = .ok (.iload_n 2, 1) := by decide +kernel
theorem dX4_borrow_166 : decode cX4_borrow 166 = .ok (.invokevirtual 182, 3) := by decide +kernel
theorem dX4_borrow_169 : decode cX4_borrow 169 = .ok (.isub, 1) := by decide +kernel
theorem dX4_borrow_170 : decode cX4_borrow 170 = .ok (.istore 11, 2) := by decide +kernel
theorem dX4_borrow_172 : decode cX4_borrow 172 = .ok (.iload 11, 2) := by decide +kernel
theorem dX4_borrow_174 : decode cX4_borrow 174 = .ok (.iload 8, 2) := by decide +kernel
theorem dX4_borrow_176 : decode cX4_borrow 176 = .ok (.if_icmp .le 11, 3) := by decide +kernel
theorem dX4_borrow_179 : decode cX4_borrow 179 = .ok (.iload 11, 2) := by decide +kernel
theorem dX4_borrow_181 : decode cX4_borrow 181 = .ok (.istore 8, 2) := by decide +kernel
theorem dX4_borrow_183 : decode cX4_borrow 183 = .ok (.iload 9, 2) := by decide +kernel
theorem dX4_borrow_185 : decode cX4_borrow 185 = .ok (.istore 7, 2) := by decide +kernel
theorem dX4_borrow_187 : decode cX4_borrow 187 = .ok (.iinc 9 1, 3) := by decide +kernel
theorem dX4_borrow_190 : decode cX4_borrow 190 = .ok (.goto (-87), 3) := by decide +kernel
theorem dX4_borrow_193 : decode cX4_borrow 193 = .ok (.iload 7, 2) := by decide +kernel
theorem dX4_borrow_195 : decode cX4_borrow 195 = .ok (.ireturn, 1) := by decide +kernel
set_option maxRecDepth 20000 in
theorem ggX4_sweep_X4_outside : GoodIn wsX4_sweep wsX4_outside := goodIn_r _ [7] (by decide +kernel) (by decide +kernel)
set_option maxRecDepth 20000 in
theorem gX4_sweep_X4_outside : GoodIn wsX4_sweep (va_wsS RX4 49 yX4_outside wsX4_outside) := goodIn_app (goodIn_of _ (by decide +kernel)) ggX4_sweep_X4_outside
set_option maxRecDepth 20000 in
theorem ggX4_sweep_X4_other : GoodIn wsX4_sweep wsX4_other := goodIn_r _ [10] (by decide +kernel) (by decide +kernel)
set_option maxRecDepth 20000 in
theorem gX4_sweep_X4_other : GoodIn wsX4_sweep (va_wsS RX4 72 yX4_other wsX4_other) := goodIn_app (goodIn_of _ (by decide +kernel)) ggX4_sweep_X4_other
set_option maxRecDepth 20000 in
theorem ggX4_sweep_X4_firstOf : GoodIn wsX4_sweep wsX4_firstOf := goodIn_r _ [13] (by decide +kernel) (by decide +kernel)
set_option maxRecDepth 20000 in
theorem gX4_sweep_X4_firstOf : GoodIn wsX4_sweep (va_wsS RX4 76 yX4_firstOf wsX4_firstOf) := goodIn_app (goodIn_of _ (by decide +kernel)) ggX4_sweep_X4_firstOf
set_option maxRecDepth 20000 in
theorem ggX4_sweep_X4_refused : GoodIn wsX4_sweep wsX4_refused := goodIn_r _ [17, 18, 67, 68, 69, 70, 71, 72, 73, 74, 75, 76, 77] (by decide +kernel) (by decide +kernel)
set_option maxRecDepth 20000 in
theorem gX4_sweep_X4_refused : GoodIn wsX4_sweep (wsV RX4 57 RX4 yX4_refused wsX4_refused) := goodIn_app (goodIn_of _ (by decide +kernel)) ggX4_sweep_X4_refused
set_option maxRecDepth 20000 in
theorem ggX4_sweep_X1_at : GoodIn wsX4_sweep wsX1_at := goodIn_r _ [23, 24, 25, 78, 79, 80, 81, 82, 83] (by decide +kernel) (by decide +kernel)
set_option maxRecDepth 20000 in
theorem gX4_sweep_X1_at : GoodIn wsX4_sweep (wsV RX4 79 RX1 yX1_at wsX1_at) := goodIn_app (goodIn_of _ (by decide +kernel)) ggX4_sweep_X1_at
set_option maxRecDepth 20000 in
theorem ggX4_sweep_X4_shortMore : GoodIn wsX4_sweep wsX4_shortMore := goodIn_r _ [29, 30, 1, 31, 32, 33, 6, 34, 35, 3, 19, 20, 21, 22, 23, 24, 25, 36, 37, 38, 39, 40, 41, 42, 43, 44, 45, 46, 47, 48, 49, 50, 51, 52, 53, 54, 55, 56, 57, 58, 59, 60, 61, 62, 63, 64, 65, 66, 84, 85, 86, 87, 88, 89, 90, 91, 67, 68, 69, 70, 71, 72, 73, 74, 75, 76, 77, 78, 79, 80, 81, 82, 83] (by decide +kernel) (by decide +kernel)
set_option maxRecDepth 20000 in
theorem gX4_sweep_X4_shortMore : GoodIn wsX4_sweep (wsV RX4 185 RX4 yX4_shortMore wsX4_shortMore) := goodIn_app (goodIn_of _ (by decide +kernel)) ggX4_sweep_X4_shortMore
theorem dX4_sweep_0 : decode cX4_sweep 0 = .ok (.iload_n 1, 1) := by decide +kernel
theorem dX4_sweep_1 : decode cX4_sweep 1 = .ok (.iconst 1, 1) := by decide +kernel
theorem dX4_sweep_2 : decode cX4_sweep 2 = .ok (.bipush 30, 2) := by decide +kernel
theorem dX4_sweep_4 : decode cX4_sweep 4 = .ok (.invokestatic 49, 3) := by decide +kernel
theorem dX4_sweep_7 : decode cX4_sweep 7 = .ok (.iload_n 2, 1) := by decide +kernel
theorem dX4_sweep_8 : decode cX4_sweep 8 = .ok (.iconst 1, 1) := by decide +kernel
theorem dX4_sweep_9 : decode cX4_sweep 9 = .ok (.invokestatic 72, 3) := by decide +kernel
theorem dX4_sweep_12 : decode cX4_sweep 12 = .ok (.iconst 0, 1) := by decide +kernel
theorem dX4_sweep_13 : decode cX4_sweep 13 = .ok (.invokestatic 76, 3) := by decide +kernel
theorem dX4_sweep_16 : decode cX4_sweep 16 = .ok (.istore_n 3, 1) := by decide +kernel
theorem dX4_sweep_17 : decode cX4_sweep 17 = .ok (.iload_n 3, 1) := by decide +kernel
theorem dX4_sweep_18 : decode cX4_sweep 18 = .ok (.ifCond .eq 9, 3) := by decide +kernel
theorem dX4_sweep_21 : decode cX4_sweep 21 = .ok (.aload_n 0, 1) := by decide +kernel
theorem dX4_sweep_22 : decode cX4_sweep 22 = .ok (.iload_n 3, 1) := by decide +kernel
theorem dX4_sweep_23 : decode cX4_sweep 23 = .ok (.invokevirtual 57, 3) := by decide +kernel
theorem dX4_sweep_26 : decode cX4_sweep 26 = .ok (.ireturn, 1) := by decide +kernel
theorem dX4_sweep_27 : decode cX4_sweep 27 = .ok (.bipush (-9), 2) := by decide +kernel
theorem dX4_sweep_29 : decode cX4_sweep 29 = .ok (.istore 4, 2) := by decide +kernel
theorem dX4_sweep_31 : decode cX4_sweep 31 = .ok (.bipush (-9), 2) := by decide +kernel
theorem dX4_sweep_33 : decode cX4_sweep 33 = .ok (.istore 5, 2) := by decide +kernel
theorem dX4_sweep_35 : decode cX4_sweep 35 = .ok (.iconst 0, 1) := by decide +kernel
theorem dX4_sweep_36 : decode cX4_sweep 36 = .ok (.istore 6, 2) := by decide +kernel
theorem dX4_sweep_38 : decode cX4_sweep 38 = .ok (.iload 6, 2) := by decide +kernel
theorem dX4_sweep_40 : decode cX4_sweep 40 = .ok (.aload_n 0, 1) := by decide +kernel
theorem dX4_sweep_41 : decode cX4_sweep 41 = .ok (.getfield 10, 3) := by decide +kernel
theorem dX4_sweep_44 : decode cX4_sweep 44 = .ok (.getfield 159, 3) := by decide +kernel
theorem dX4_sweep_47 : decode cX4_sweep 47 = .ok (.if_icmp .ge 71, 3) := by decide +kernel
theorem dX4_sweep_50 : decode cX4_sweep 50 = .ok (.aload_n 0, 1) := by decide +kernel
theorem dX4_sweep_51 : decode cX4_sweep 51 = .ok (.getfield 10, 3) := by decide +kernel
theorem dX4_sweep_54 : decode cX4_sweep 54 = .ok (.iload 6, 2) := by decide +kernel
theorem dX4_sweep_56 : decode cX4_sweep 56 = .ok (.invokevirtual 79, 3) := by decide +kernel
theorem dX4_sweep_59 : decode cX4_sweep 59 = .ok (.getfield 89, 3) := by decide +kernel
theorem dX4_sweep_62 : decode cX4_sweep 62 = .ok (.istore 7, 2) := by decide +kernel
theorem dX4_sweep_64 : decode cX4_sweep 64 = .ok (.iload 7, 2) := by decide +kernel
theorem dX4_sweep_66 : decode cX4_sweep 66 = .ok (.ifCond .ne 6, 3) := by decide +kernel
theorem dX4_sweep_69 : decode cX4_sweep 69 = .ok (.goto 43, 3) := by decide +kernel
theorem dX4_sweep_72 : decode cX4_sweep 72 = .ok (.aload_n 0, 1) := by decide +kernel
theorem dX4_sweep_73 : decode cX4_sweep 73 = .ok (.iload 6, 2) := by decide +kernel
theorem dX4_sweep_75 : decode cX4_sweep 75 = .ok (.iconst 0, 1) := by decide +kernel
theorem dX4_sweep_76 : decode cX4_sweep 76 = .ok (.iload_n 1, 1) := by decide +kernel
theorem dX4_sweep_77 : decode cX4_sweep 77 = .ok (.invokevirtual 185, 3) := by decide +kernel
theorem dX4_sweep_80 : decode cX4_sweep 80 = .ok (.aload_n 0, 1) := by decide +kernel
theorem dX4_sweep_81 : decode cX4_sweep 81 = .ok (.iload 6, 2) := by decide +kernel
theorem dX4_sweep_83 : decode cX4_sweep 83 = .ok (.iload 7, 2) := by decide +kernel
theorem dX4_sweep_85 : decode cX4_sweep 85 = .ok (.iload_n 1, 1) := by decide +kernel
theorem dX4_sweep_86 : decode cX4_sweep 86 = .ok (.invokevirtual 185, 3) := by decide +kernel
theorem dX4_sweep_89 : decode cX4_sweep 89 = .ok (.isub, 1) := by decide +kernel
theorem dX4_sweep_90 : decode cX4_sweep 90 = .ok (.istore 8, 2) := by decide +kernel
theorem dX4_sweep_92 : decode cX4_sweep 92 = .ok (.iload 4, 2) := by decide +kernel
theorem dX4_sweep_94 : decode cX4_sweep 94 = .ok (.ifCond .lt 10, 3) := by decide +kernel
theorem dX4_sweep_97 : decode cX4_sweep 97 = .ok (.iload 8, 2) := by decide +kernel
theorem dX4_sweep_99 : decode cX4_sweep 99 = .ok (.iload 5, 2) := by decide +kernel
theorem dX4_sweep_101 : decode cX4_sweep 101 = .ok (.if_icmp .ge 11, 3) := by decide +kernel
theorem dX4_sweep_104 : decode cX4_sweep 104 = .ok (.iload 6, 2) := by decide +kernel
theorem dX4_sweep_106 : decode cX4_sweep 106 = .ok (.istore 4, 2) := by decide +kernel
theorem dX4_sweep_108 : decode cX4_sweep 108 = .ok (.iload 8, 2) := by decide +kernel
theorem dX4_sweep_110 : decode cX4_sweep 110 = .ok (.istore 5, 2) := by decide +kernel
theorem dX4_sweep_112 : decode cX4_sweep 112 = .ok (.iinc 6 1, 3) := by decide +kernel
theorem dX4_sweep_115 : decode cX4_sweep 115 = .ok (.goto (-77), 3) := by decide +kernel
theorem dX4_sweep_118 : decode cX4_sweep 118 = .ok (.iload_n 2, 1) := by decide +kernel
theorem dX4_sweep_119 : decode cX4_sweep 119 = .ok (.ifCond .ne 8, 3) := by decide +kernel
theorem dX4_sweep_122 : decode cX4_sweep 122 = .ok (.iload 4, 2) := by decide +kernel
theorem dX4_sweep_124 : decode cX4_sweep 124 = .ok (.goto 5, 3) := by decide +kernel
theorem dX4_sweep_127 : decode cX4_sweep 127 = .ok (.iload 5, 2) := by decide +kernel
theorem dX4_sweep_129 : decode cX4_sweep 129 = .ok (.ireturn, 1) := by decide +kernel
set_option maxRecDepth 20000 in
theorem ggX4_grain_X4_outside : GoodIn wsX4_grain wsX4_outside := goodIn_r _ [7] (by decide +kernel) (by decide +kernel)
set_option maxRecDepth 20000 in
theorem gX4_grain_X4_outside : GoodIn wsX4_grain (va_wsS RX4 49 yX4_outside wsX4_outside) := goodIn_app (goodIn_of _ (by decide +kernel)) ggX4_grain_X4_outside
set_option maxRecDepth 20000 in
theorem ggX4_grain_X4_refused : GoodIn wsX4_grain wsX4_refused := goodIn_r _ [11, 12, 61, 62, 63, 64, 65, 66, 67, 68, 69, 70, 71] (by decide +kernel) (by decide +kernel)
set_option maxRecDepth 20000 in
theorem gX4_grain_X4_refused : GoodIn wsX4_grain (wsV RX4 57 RX4 yX4_refused wsX4_refused) := goodIn_app (goodIn_of _ (by decide +kernel)) ggX4_grain_X4_refused
set_option maxRecDepth 20000 in
theorem ggX4_grain_X1_at : GoodIn wsX4_grain wsX1_at := goodIn_r _ [17, 18, 19, 72, 73, 74, 75, 76, 77] (by decide +kernel) (by decide +kernel)
set_option maxRecDepth 20000 in
theorem gX4_grain_X1_at : GoodIn wsX4_grain (wsV RX4 79 RX1 yX1_at wsX1_at) := goodIn_app (goodIn_of _ (by decide +kernel)) ggX4_grain_X1_at
set_option maxRecDepth 20000 in
theorem ggX4_grain_X4_throughMore : GoodIn wsX4_grain wsX4_throughMore := goodIn_r _ [23, 24, 1, 25, 26, 27, 6, 28, 29, 3, 13, 14, 15, 16, 17, 18, 19, 30, 31, 32, 33, 34, 35, 36, 37, 38, 39, 40, 41, 42, 43, 44, 45, 46, 47, 48, 49, 50, 51, 52, 53, 54, 55, 56, 57, 58, 59, 60, 78, 79, 80, 81, 82, 83, 84, 85, 61, 62, 63, 64, 65, 66, 67, 68, 69, 70, 71, 72, 73, 74, 75, 76, 77] (by decide +kernel) (by decide +kernel)
set_option maxRecDepth 20000 in
theorem gX4_grain_X4_throughMore : GoodIn wsX4_grain (wsV RX4 182 RX4 yX4_throughMore wsX4_throughMore) := goodIn_app (goodIn_of _ (by decide +kernel)) ggX4_grain_X4_throughMore
theorem dX4_grain_0 : decode cX4_grain 0 = .ok (.iload_n 1, 1) := by decide +kernel
theorem dX4_grain_1 : decode cX4_grain 1 = .ok (.iconst 1, 1) := by decide +kernel
theorem dX4_grain_2 : decode cX4_grain 2 = .ok (.bipush 30, 2) := by decide +kernel
theorem dX4_grain_4 : decode cX4_grain 4 = .ok (.invokestatic 49, 3) := by decide +kernel
theorem dX4_grain_7 : decode cX4_grain 7 = .ok (.istore_n 2, 1) := by decide +kernel
theorem dX4_grain_8 : decode cX4_grain 8 = .ok (.iload_n 2, 1) := by decide +kernel
theorem dX4_grain_9 : decode cX4_grain 9 = .ok (.ifCond .eq 9, 3) := by decide +kernel
theorem dX4_grain_12 : decode cX4_grain 12 = .ok (.aload_n 0, 1) := by decide +kernel
theorem dX4_grain_13 : decode cX4_grain 13 = .ok (.iload_n 2, 1) := by decide +kernel
theorem dX4_grain_14 : decode cX4_grain 14 = .ok (.invokevirtual 57, 3) := by decide +kernel
theorem dX4_grain_17 : decode cX4_grain 17 = .ok (.ireturn, 1) := by decide +kernel
theorem dX4_grain_18 : decode cX4_grain 18 = .ok (.bipush (-9), 2) := by decide +kernel
theorem dX4_grain_20 : decode cX4_grain 20 = .ok (.istore_n 3, 1) := by decide +kernel
theorem dX4_grain_21 : decode cX4_grain 21 = .ok (.iconst 0, 1) := by decide +kernel
theorem dX4_grain_22 : decode cX4_grain 22 = .ok (.istore 4, 2) := by decide +kernel
theorem dX4_grain_24 : decode cX4_grain 24 = .ok (.iconst 0, 1) := by decide +kernel
theorem dX4_grain_25 : decode cX4_grain 25 = .ok (.istore 5, 2) := by decide +kernel
theorem dX4_grain_27 : decode cX4_grain 27 = .ok (.iload 5, 2) := by decide +kernel
theorem dX4_grain_29 : decode cX4_grain 29 = .ok (.aload_n 0, 1) := by decide +kernel
theorem dX4_grain_30 : decode cX4_grain 30 = .ok (.getfield 10, 3) := by decide +kernel
theorem dX4_grain_33 : decode cX4_grain 33 = .ok (.getfield 159, 3) := by decide +kernel
theorem dX4_grain_36 : decode cX4_grain 36 = .ok (.if_icmp .ge 70, 3) := by decide +kernel
theorem dX4_grain_39 : decode cX4_grain 39 = .ok (.aload_n 0, 1) := by decide +kernel
theorem dX4_grain_40 : decode cX4_grain 40 = .ok (.getfield 10, 3) := by decide +kernel
theorem dX4_grain_43 : decode cX4_grain 43 = .ok (.iload 5, 2) := by decide +kernel
theorem dX4_grain_45 : decode cX4_grain 45 = .ok (.invokevirtual 79, 3) := by decide +kernel
theorem dX4_grain_48 : decode cX4_grain 48 = .ok (.getfield 89, 3) := by decide +kernel
theorem dX4_grain_51 : decode cX4_grain 51 = .ok (.istore 6, 2) := by decide +kernel
theorem dX4_grain_53 : decode cX4_grain 53 = .ok (.iload 6, 2) := by decide +kernel
theorem dX4_grain_55 : decode cX4_grain 55 = .ok (.bipush 99, 2) := by decide +kernel
theorem dX4_grain_57 : decode cX4_grain 57 = .ok (.if_icmp .lt 6, 3) := by decide +kernel
theorem dX4_grain_60 : decode cX4_grain 60 = .ok (.goto 40, 3) := by decide +kernel
theorem dX4_grain_63 : decode cX4_grain 63 = .ok (.aload_n 0, 1) := by decide +kernel
theorem dX4_grain_64 : decode cX4_grain 64 = .ok (.iload 5, 2) := by decide +kernel
theorem dX4_grain_66 : decode cX4_grain 66 = .ok (.iload 6, 2) := by decide +kernel
theorem dX4_grain_68 : decode cX4_grain 68 = .ok (.iconst 1, 1) := by decide +kernel
theorem dX4_grain_69 : decode cX4_grain 69 = .ok (.iadd, 1) := by decide +kernel
theorem dX4_grain_70 : decode cX4_grain 70 = .ok (.iload_n 1, 1) := by decide +kernel
theorem dX4_grain_71 : decode cX4_grain 71 = .ok (.invokevirtual 182, 3) := by decide +kernel
theorem dX4_grain_74 : decode cX4_grain 74 = .ok (.aload_n 0, 1) := by decide +kernel
theorem dX4_grain_75 : decode cX4_grain 75 = .ok (.iload 5, 2) := by decide +kernel
theorem dX4_grain_77 : decode cX4_grain 77 = .ok (.iload 6, 2) := by decide +kernel
theorem dX4_grain_79 : decode cX4_grain 79 = .ok (.iload_n 1, 1) := by decide +kernel
theorem dX4_grain_80 : decode cX4_grain 80 = .ok (.invokevirtual 182, 3) := by decide +kernel
theorem dX4_grain_83 : decode cX4_grain 83 = .ok (.isub, 1) := by decide +kernel
theorem dX4_grain_84 : decode cX4_grain 84 = .ok (.istore 7, 2) := by decide +kernel
theorem dX4_grain_86 : decode cX4_grain 86 = .ok (.iload 7, 2) := by decide +kernel
theorem dX4_grain_88 : decode cX4_grain 88 = .ok (.iload 4, 2) := by decide +kernel
