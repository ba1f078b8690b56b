theorem dX12_in_0 : decode cX12_in 0 = .ok (.iload_n 0, 1) := by decide +kernel
theorem dX12_in_1 : decode cX12_in 1 = .ok (.iload_n 1, 1) := by decide +kernel
theorem dX12_in_2 : decode cX12_in 2 = .ok (.if_icmp .lt 12, 3) := by decide +kernel
theorem dX12_in_5 : decode cX12_in 5 = .ok (.iload_n 0, 1) := by decide +kernel
theorem dX12_in_6 : decode cX12_in 6 = .ok (.iload_n 2, 1) := by decide +kernel
theorem dX12_in_7 : decode cX12_in 7 = .ok (.if_icmp .gt 7, 3) := by decide +kernel
theorem dX12_in_10 : decode cX12_in 10 = .ok (.iconst 1, 1) := by decide +kernel
theorem dX12_in_11 : decode cX12_in 11 = .ok (.goto 4, 3) := by decide +kernel
theorem dX12_in_14 : decode cX12_in 14 = .ok (.iconst 0, 1) := by decide +kernel
theorem dX12_in_15 : decode cX12_in 15 = .ok (.ireturn, 1) := by decide +kernel
set_option maxRecDepth 20000 in
theorem ggX12_isDay_X12_in : GoodIn wsX12_isDay wsX12_in := goodIn_r _ [4] (by decide +kernel) (by decide +kernel)
set_option maxRecDepth 20000 in
theorem gX12_isDay_X12_in : GoodIn wsX12_isDay (va_wsS RX12 77 yX12_in wsX12_in) := goodIn_app (goodIn_of _ (by decide +kernel)) ggX12_isDay_X12_in
theorem dX12_isDay_0 : decode cX12_isDay 0 = .ok (.iload_n 0, 1) := by decide +kernel
theorem dX12_isDay_1 : decode cX12_isDay 1 = .ok (.iconst 0, 1) := by decide +kernel
theorem dX12_isDay_2 : decode cX12_isDay 2 = .ok (.sipush 9999, 3) := by decide +kernel
theorem dX12_isDay_5 : decode cX12_isDay 5 = .ok (.invokestatic 77, 3) := by decide +kernel
theorem dX12_isDay_8 : decode cX12_isDay 8 = .ok (.ireturn, 1) := by decide +kernel
set_option maxRecDepth 20000 in
theorem ggX12_isWard_X12_in : GoodIn wsX12_isWard wsX12_in := goodIn_r _ [5] (by decide +kernel) (by decide +kernel)
set_option maxRecDepth 20000 in
theorem gX12_isWard_X12_in : GoodIn wsX12_isWard (va_wsS RX12 77 yX12_in wsX12_in) := goodIn_app (goodIn_of _ (by decide +kernel)) ggX12_isWard_X12_in
theorem dX12_isWard_0 : decode cX12_isWard 0 = .ok (.iload_n 1, 1) := by decide +kernel
theorem dX12_isWard_1 : decode cX12_isWard 1 = .ok (.iconst 0, 1) := by decide +kernel
theorem dX12_isWard_2 : decode cX12_isWard 2 = .ok (.aload_n 0, 1) := by decide +kernel
theorem dX12_isWard_3 : decode cX12_isWard 3 = .ok (.getfield 7, 3) := by decide +kernel
theorem dX12_isWard_6 : decode cX12_isWard 6 = .ok (.iconst 1, 1) := by decide +kernel
theorem dX12_isWard_7 : decode cX12_isWard 7 = .ok (.iaload, 1) := by decide +kernel
theorem dX12_isWard_8 : decode cX12_isWard 8 = .ok (.iconst 1, 1) := by decide +kernel
theorem dX12_isWard_9 : decode cX12_isWard 9 = .ok (.isub, 1) := by decide +kernel
theorem dX12_isWard_10 : decode cX12_isWard 10 = .ok (.invokestatic 77, 3) := by decide +kernel
theorem dX12_isWard_13 : decode cX12_isWard 13 = .ok (.ireturn, 1) := by decide +kernel
set_option maxRecDepth 20000 in
theorem ggX12_isMan_X12_in : GoodIn wsX12_isMan wsX12_in := goodIn_r _ [5] (by decide +kernel) (by decide +kernel)
set_option maxRecDepth 20000 in
theorem gX12_isMan_X12_in : GoodIn wsX12_isMan (va_wsS RX12 77 yX12_in wsX12_in) := goodIn_app (goodIn_of _ (by decide +kernel)) ggX12_isMan_X12_in
theorem dX12_isMan_0 : decode cX12_isMan 0 = .ok (.iload_n 1, 1) := by decide +kernel
theorem dX12_isMan_1 : decode cX12_isMan 1 = .ok (.iconst 0, 1) := by decide +kernel
theorem dX12_isMan_2 : decode cX12_isMan 2 = .ok (.aload_n 0, 1) := by decide +kernel
theorem dX12_isMan_3 : decode cX12_isMan 3 = .ok (.getfield 7, 3) := by decide +kernel
theorem dX12_isMan_6 : decode cX12_isMan 6 = .ok (.iconst 2, 1) := by decide +kernel
theorem dX12_isMan_7 : decode cX12_isMan 7 = .ok (.iaload, 1) := by decide +kernel
theorem dX12_isMan_8 : decode cX12_isMan 8 = .ok (.iconst 1, 1) := by decide +kernel
theorem dX12_isMan_9 : decode cX12_isMan 9 = .ok (.isub, 1) := by decide +kernel
theorem dX12_isMan_10 : decode cX12_isMan 10 = .ok (.invokestatic 77, 3) := by decide +kernel
theorem dX12_isMan_13 : decode cX12_isMan 13 = .ok (.ireturn, 1) := by decide +kernel
set_option maxRecDepth 20000 in
theorem ggX12_isSherd_X12_in : GoodIn wsX12_isSherd wsX12_in := goodIn_r _ [5] (by decide +kernel) (by decide +kernel)
set_option maxRecDepth 20000 in
theorem gX12_isSherd_X12_in : GoodIn wsX12_isSherd (va_wsS RX12 77 yX12_in wsX12_in) := goodIn_app (goodIn_of _ (by decide +kernel)) ggX12_isSherd_X12_in
theorem dX12_isSherd_0 : decode cX12_isSherd 0 = .ok (.iload_n 1, 1) := by decide +kernel
theorem dX12_isSherd_1 : decode cX12_isSherd 1 = .ok (.iconst 0, 1) := by decide +kernel
theorem dX12_isSherd_2 : decode cX12_isSherd 2 = .ok (.aload_n 0, 1) := by decide +kernel
theorem dX12_isSherd_3 : decode cX12_isSherd 3 = .ok (.getfield 7, 3) := by decide +kernel
theorem dX12_isSherd_6 : decode cX12_isSherd 6 = .ok (.iconst 5, 1) := by decide +kernel
theorem dX12_isSherd_7 : decode cX12_isSherd 7 = .ok (.iaload, 1) := by decide +kernel
theorem dX12_isSherd_8 : decode cX12_isSherd 8 = .ok (.iconst 1, 1) := by decide +kernel
theorem dX12_isSherd_9 : decode cX12_isSherd 9 = .ok (.isub, 1) := by decide +kernel
theorem dX12_isSherd_10 : decode cX12_isSherd 10 = .ok (.invokestatic 77, 3) := by decide +kernel
theorem dX12_isSherd_13 : decode cX12_isSherd 13 = .ok (.ireturn, 1) := by decide +kernel
set_option maxRecDepth 20000 in
theorem ggX12_isClub_X12_in : GoodIn wsX12_isClub wsX12_in := goodIn_r _ [4] (by decide +kernel) (by decide +kernel)
set_option maxRecDepth 20000 in
theorem gX12_isClub_X12_in : GoodIn wsX12_isClub (va_wsS RX12 77 yX12_in wsX12_in) := goodIn_app (goodIn_of _ (by decide +kernel)) ggX12_isClub_X12_in
theorem dX12_isClub_0 : decode cX12_isClub 0 = .ok (.iload_n 0, 1) := by decide +kernel
theorem dX12_isClub_1 : decode cX12_isClub 1 = .ok (.iconst 0, 1) := by decide +kernel
theorem dX12_isClub_2 : decode cX12_isClub 2 = .ok (.iconst 5, 1) := by decide +kernel
theorem dX12_isClub_3 : decode cX12_isClub 3 = .ok (.invokestatic 77, 3) := by decide +kernel
theorem dX12_isClub_6 : decode cX12_isClub 6 = .ok (.ireturn, 1) := by decide +kernel
theorem dX12_isName_0 : decode cX12_isName 0 = .ok (.iload_n 0, 1) := by decide +kernel
theorem dX12_isName_1 : decode cX12_isName 1 = .ok (.istore_n 1, 1) := by decide +kernel
theorem dX12_isName_2 : decode cX12_isName 2 = .ok (.iconst 0, 1) := by decide +kernel
theorem dX12_isName_3 : decode cX12_isName 3 = .ok (.istore_n 2, 1) := by decide +kernel
theorem dX12_isName_4 : decode cX12_isName 4 = .ok (.iload_n 1, 1) := by decide +kernel
theorem dX12_isName_5 : decode cX12_isName 5 = .ok (.ifCond .le 23, 3) := by decide +kernel
theorem dX12_isName_8 : decode cX12_isName 8 = .ok (.iload_n 1, 1) := by decide +kernel
theorem dX12_isName_9 : decode cX12_isName 9 = .ok (.bipush 27, 2) := by decide +kernel
theorem dX12_isName_11 : decode cX12_isName 11 = .ok (.irem, 1) := by decide +kernel
theorem dX12_isName_12 : decode cX12_isName 12 = .ok (.ifCond .ne 5, 3) := by decide +kernel
theorem dX12_isName_15 : decode cX12_isName 15 = .ok (.iconst 0, 1) := by decide +kernel
theorem dX12_isName_16 : decode cX12_isName 16 = .ok (.ireturn, 1) := by decide +kernel
theorem dX12_isName_17 : decode cX12_isName 17 = .ok (.iload_n 1, 1) := by decide +kernel
theorem dX12_isName_18 : decode cX12_isName 18 = .ok (.bipush 27, 2) := by decide +kernel
theorem dX12_isName_20 : decode cX12_isName 20 = .ok (.idiv, 1) := by decide +kernel
theorem dX12_isName_21 : decode cX12_isName 21 = .ok (.istore_n 1, 1) := by decide +kernel
theorem dX12_isName_22 : decode cX12_isName 22 = .ok (.iinc 2 1, 3) := by decide +kernel
theorem dX12_isName_25 : decode cX12_isName 25 = .ok (.goto (-21), 3) := by decide +kernel
theorem dX12_isName_28 : decode cX12_isName 28 = .ok (.iload_n 0, 1) := by decide +kernel
theorem dX12_isName_29 : decode cX12_isName 29 = .ok (.ifCond .le 13, 3) := by decide +kernel
theorem dX12_isName_32 : decode cX12_isName 32 = .ok (.iload_n 2, 1) := by decide +kernel
theorem dX12_isName_33 : decode cX12_isName 33 = .ok (.bipush 6, 2) := by decide +kernel
theorem dX12_isName_35 : decode cX12_isName 35 = .ok (.if_icmp .gt 7, 3) := by decide +kernel
theorem dX12_isName_38 : decode cX12_isName 38 = .ok (.iconst 1, 1) := by decide +kernel
theorem dX12_isName_39 : decode cX12_isName 39 = .ok (.goto 4, 3) := by decide +kernel
theorem dX12_isName_42 : decode cX12_isName 42 = .ok (.iconst 0, 1) := by decide +kernel
theorem dX12_isName_43 : decode cX12_isName 43 = .ok (.ireturn, 1) := by decide +kernel
set_option maxRecDepth 20000 in
theorem ggX12_days_X12_in : GoodIn wsX12_days wsX12_in := goodIn_r _ [5] (by decide +kernel) (by decide +kernel)
set_option maxRecDepth 20000 in
theorem gX12_days_X12_in : GoodIn wsX12_days (va_wsS RX12 77 yX12_in wsX12_in) := goodIn_app (goodIn_of _ (by decide +kernel)) ggX12_days_X12_in
set_option maxRecDepth 20000 in
theorem ggX12_days_X12_passes : GoodIn wsX12_days wsX12_passes := goodIn_r _ [9, 1, 10, 11, 12, 4, 13, 14, 15, 16, 17, 18, 19, 20, 21, 22, 23, 24, 25, 26, 27, 28, 29, 30, 31, 32, 33, 34, 35, 36, 37, 38, 39, 40, 41, 42, 43, 44, 45, 46, 47, 48, 49, 50, 51, 52, 53, 54, 55, 56] (by decide +kernel) (by decide +kernel)
set_option maxRecDepth 20000 in
theorem gX12_days_X12_passes : GoodIn wsX12_days (wsV RX12 81 RX12 yX12_passes wsX12_passes) := goodIn_app (goodIn_of _ (by decide +kernel)) ggX12_days_X12_passes
theorem dX12_days_0 : decode cX12_days 0 = .ok (.iload_n 1, 1) := by decide +kernel
theorem dX12_days_1 : decode cX12_days 1 = .ok (.iconst 1, 1) := by decide +kernel
theorem dX12_days_2 : decode cX12_days 2 = .ok (.sipush 400, 3) := by decide +kernel
theorem dX12_days_5 : decode cX12_days 5 = .ok (.invokestatic 77, 3) := by decide +kernel
theorem dX12_days_8 : decode cX12_days 8 = .ok (.ifCond .ne 5, 3) := by decide +kernel
theorem dX12_days_11 : decode cX12_days 11 = .ok (.iconst (-1), 1) := by decide +kernel
theorem dX12_days_12 : decode cX12_days 12 = .ok (.ireturn, 1) := by decide +kernel
theorem dX12_days_13 : decode cX12_days 13 = .ok (.aload_n 0, 1) := by decide +kernel
theorem dX12_days_14 : decode cX12_days 14 = .ok (.getfield 7, 3) := by decide +kernel
theorem dX12_days_17 : decode cX12_days 17 = .ok (.iconst 0, 1) := by decide +kernel
theorem dX12_days_18 : decode cX12_days 18 = .ok (.iaload, 1) := by decide +kernel
theorem dX12_days_19 : decode cX12_days 19 = .ok (.iload_n 1, 1) := by decide +kernel
theorem dX12_days_20 : decode cX12_days 20 = .ok (.iadd, 1) := by decide +kernel
theorem dX12_days_21 : decode cX12_days 21 = .ok (.sipush 9999, 3) := by decide +kernel
theorem dX12_days_24 : decode cX12_days 24 = .ok (.if_icmp .le 6, 3) := by decide +kernel
theorem dX12_days_27 : decode cX12_days 27 = .ok (.bipush (-4), 2) := by decide +kernel
theorem dX12_days_29 : decode cX12_days 29 = .ok (.ireturn, 1) := by decide +kernel
theorem dX12_days_30 : decode cX12_days 30 = .ok (.iconst 0, 1) := by decide +kernel
theorem dX12_days_31 : decode cX12_days 31 = .ok (.istore_n 2, 1) := by decide +kernel
theorem dX12_days_32 : decode cX12_days 32 = .ok (.iload_n 2, 1) := by decide +kernel
theorem dX12_days_33 : decode cX12_days 33 = .ok (.iload_n 1, 1) := by decide +kernel
theorem dX12_days_34 : decode cX12_days 34 = .ok (.if_icmp .ge 13, 3) := by decide +kernel
theorem dX12_days_37 : decode cX12_days 37 = .ok (.aload_n 0, 1) := by decide +kernel
theorem dX12_days_38 : decode cX12_days 38 = .ok (.invokevirtual 81, 3) := by decide +kernel
theorem dX12_days_41 : decode cX12_days 41 = .ok (.iinc 2 1, 3) := by decide +kernel
theorem dX12_days_44 : decode cX12_days 44 = .ok (.goto (-12), 3) := by decide +kernel
theorem dX12_days_47 : decode cX12_days 47 = .ok (.aload_n 0, 1) := by decide +kernel
theorem dX12_days_48 : decode cX12_days 48 = .ok (.getfield 7, 3) := by decide +kernel
theorem dX12_days_51 : decode cX12_days 51 = .ok (.iconst 0, 1) := by decide +kernel
theorem dX12_days_52 : decode cX12_days 52 = .ok (.iaload, 1) := by decide +kernel
theorem dX12_days_53 : decode cX12_days 53 = .ok (.ireturn, 1) := by decide +kernel
theorem dX12_had_0 : decode cX12_had 0 = .ok (.aload_n 0, 1) := by decide +kernel
theorem dX12_had_1 : decode cX12_had 1 = .ok (.getfield 7, 3) := by decide +kernel
theorem dX12_had_4 : decode cX12_had 4 = .ok (.sipush 491, 3) := by decide +kernel
theorem dX12_had_7 : decode cX12_had 7 = .ok (.bipush 8, 2) := by decide +kernel
theorem dX12_had_9 : decode cX12_had 9 = .ok (.iload_n 1, 1) := by decide +kernel
theorem dX12_had_10 : decode cX12_had 10 = .ok (.imul, 1) := by decide +kernel
theorem dX12_had_11 : decode cX12_had 11 = .ok (.iadd, 1) := by decide +kernel
theorem dX12_had_12 : decode cX12_had 12 = .ok (.iload_n 2, 1) := by decide +kernel
theorem dX12_had_13 : decode cX12_had 13 = .ok (.iadd, 1) := by decide +kernel
theorem dX12_had_14 : decode cX12_had 14 = .ok (.iaload, 1) := by decide +kernel
theorem dX12_had_15 : decode cX12_had 15 = .ok (.istore 4, 2) := by decide +kernel
theorem dX12_had_17 : decode cX12_had 17 = .ok (.iload 4, 2) := by decide +kernel
theorem dX12_had_19 : decode cX12_had 19 = .ok (.ifCond .lt 13, 3) := by decide +kernel
theorem dX12_had_22 : decode cX12_had 22 = .ok (.iload 4, 2) := by decide +kernel
theorem dX12_had_24 : decode cX12_had 24 = .ok (.iload_n 3, 1) := by decide +kernel
theorem dX12_had_25 : decode cX12_had 25 = .ok (.if_icmp .gt 7, 3) := by decide +kernel
theorem dX12_had_28 : decode cX12_had 28 = .ok (.iconst 1, 1) := by decide +kernel
theorem dX12_had_29 : decode cX12_had 29 = .ok (.goto 4, 3) := by decide +kernel
theorem dX12_had_32 : decode cX12_had 32 = .ok (.iconst 0, 1) := by decide +kernel
theorem dX12_had_33 : decode cX12_had 33 = .ok (.ireturn, 1) := by decide +kernel
set_option maxRecDepth 20000 in
theorem ggX12_passes_X12_had : GoodIn wsX12_passes wsX12_had := goodIn_r _ [6, 1, 7, 8, 9, 10, 11, 12, 13, 14, 15, 16, 17, 18, 19, 20, 21, 22, 23, 24, 25, 26, 27, 28, 29, 30, 31, 32, 33, 34, 35, 36, 37, 38, 39, 40, 41, 42, 43, 44, 45, 46, 47, 48, 49] (by decide +kernel) (by decide +kernel)
set_option maxRecDepth 20000 in
theorem gX12_passes_X12_had : GoodIn wsX12_passes (wsV RX12 84 RX12 yX12_had wsX12_had) := goodIn_app (goodIn_of _ (by decide +kernel)) ggX12_passes_X12_had
theorem dX12_passes_0 : decode cX12_passes 0 = .ok (.aload_n 0, 1) := by decide +kernel
theorem dX12_passes_1 : decode cX12_passes 1 = .ok (.getfield 7, 3) := by decide +kernel
theorem dX12_passes_4 : decode cX12_passes 4 = .ok (.iconst 0, 1) := by decide +kernel
theorem dX12_passes_5 : decode cX12_passes 5 = .ok (.iaload, 1) := by decide +kernel
theorem dX12_passes_6 : decode cX12_passes 6 = .ok (.istore_n 1, 1) := by decide +kernel
theorem dX12_passes_7 : decode cX12_passes 7 = .ok (.iconst 0, 1) := by decide +kernel
theorem dX12_passes_8 : decode cX12_passes 8 = .ok (.istore_n 2, 1) := by decide +kernel
theorem dX12_passes_9 : decode cX12_passes 9 = .ok (.iload_n 2, 1) := by decide +kernel
theorem dX12_passes_10 : decode cX12_passes 10 = .ok (.aload_n 0, 1) := by decide +kernel
theorem dX12_passes_11 : decode cX12_passes 11 = .ok (.getfield 7, 3) := by decide +kernel
theorem dX12_passes_14 : decode cX12_passes 14 = .ok (.iconst 3, 1) := by decide +kernel
theorem dX12_passes_15 : decode cX12_passes 15 = .ok (.iaload, 1) := by decide +kernel
theorem dX12_passes_16 : decode cX12_passes 16 = .ok (.if_icmp .ge 192, 3) := by decide +kernel
theorem dX12_passes_19 : decode cX12_passes 19 = .ok (.iconst 0, 1) := by decide +kernel
theorem dX12_passes_20 : decode cX12_passes 20 = .ok (.istore_n 3, 1) := by decide +kernel
theorem dX12_passes_21 : decode cX12_passes 21 = .ok (.iload_n 3, 1) := by decide +kernel
theorem dX12_passes_22 : decode cX12_passes 22 = .ok (.aload_n 0, 1) := by decide +kernel
theorem dX12_passes_23 : decode cX12_passes 23 = .ok (.getfield 7, 3) := by decide +kernel
theorem dX12_passes_26 : decode cX12_passes 26 = .ok (.iconst 2, 1) := by decide +kernel
theorem dX12_passes_27 : decode cX12_passes 27 = .ok (.iaload, 1) := by decide +kernel
theorem dX12_passes_28 : decode cX12_passes 28 = .ok (.if_icmp .ge 174, 3) := by decide +kernel
theorem dX12_passes_31 : decode cX12_passes 31 = .ok (.iconst 0, 1) := by decide +kernel
theorem dX12_passes_32 : decode cX12_passes 32 = .ok (.istore 4, 2) := by decide +kernel
theorem dX12_passes_34 : decode cX12_passes 34 = .ok (.iconst 0, 1) := by decide +kernel
theorem dX12_passes_35 : decode cX12_passes 35 = .ok (.istore 5, 2) := by decide +kernel
theorem dX12_passes_37 : decode cX12_passes 37 = .ok (.iload 5, 2) := by decide +kernel
theorem dX12_passes_39 : decode cX12_passes 39 = .ok (.aload_n 0, 1) := by decide +kernel
theorem dX12_passes_40 : decode cX12_passes 40 = .ok (.getfield 7, 3) := by decide +kernel
theorem dX12_passes_43 : decode cX12_passes 43 = .ok (.iconst 2, 1) := by decide +kernel
theorem dX12_passes_44 : decode cX12_passes 44 = .ok (.iaload, 1) := by decide +kernel
theorem dX12_passes_45 : decode cX12_passes 45 = .ok (.if_icmp .ge 104, 3) := by decide +kernel
theorem dX12_passes_48 : decode cX12_passes 48 = .ok (.aload_n 0, 1) := by decide +kernel
theorem dX12_passes_49 : decode cX12_passes 49 = .ok (.getfield 7, 3) := by decide +kernel
theorem dX12_passes_52 : decode cX12_passes 52 = .ok (.bipush 75, 2) := by decide +kernel
theorem dX12_passes_54 : decode cX12_passes 54 = .ok (.iload 5, 2) := by decide +kernel
theorem dX12_passes_56 : decode cX12_passes 56 = .ok (.iadd, 1) := by decide +kernel
theorem dX12_passes_57 : decode cX12_passes 57 = .ok (.iaload, 1) := by decide +kernel
theorem dX12_passes_58 : decode cX12_passes 58 = .ok (.aload_n 0, 1) := by decide +kernel
theorem dX12_passes_59 : decode cX12_passes 59 = .ok (.getfield 7, 3) := by decide +kernel
theorem dX12_passes_62 : decode cX12_passes 62 = .ok (.bipush 75, 2) := by decide +kernel
theorem dX12_passes_64 : decode cX12_passes 64 = .ok (.iload_n 3, 1) := by decide +kernel
theorem dX12_passes_65 : decode cX12_passes 65 = .ok (.iadd, 1) := by decide +kernel
theorem dX12_passes_66 : decode cX12_passes 66 = .ok (.iaload, 1) := by decide +kernel
theorem dX12_passes_67 : decode cX12_passes 67 = .ok (.if_icmp .eq 43, 3) := by decide +kernel
theorem dX12_passes_70 : decode cX12_passes 70 = .ok (.iload_n 1, 1) := by decide +kernel
theorem dX12_passes_71 : decode cX12_passes 71 = .ok (.iconst 3, 1) := by decide +kernel
theorem dX12_passes_72 : decode cX12_passes 72 = .ok (.irem, 1) := by decide +kernel
theorem dX12_passes_73 : decode cX12_passes 73 = .ok (.ifCond .ne 41, 3) := by decide +kernel
theorem dX12_passes_76 : decode cX12_passes 76 = .ok (.aload_n 0, 1) := by decide +kernel
theorem dX12_passes_77 : decode cX12_passes 77 = .ok (.getfield 7, 3) := by decide +kernel
theorem dX12_passes_80 : decode cX12_passes 80 = .ok (.bipush 91, 2) := by decide +kernel
theorem dX12_passes_82 : decode cX12_passes 82 = .ok (.iload_n 3, 1) := by decide +kernel
theorem dX12_passes_83 : decode cX12_passes 83 = .ok (.iadd, 1) := by decide +kernel
theorem dX12_passes_84 : decode cX12_passes 84 = .ok (.iaload, 1) := by decide +kernel
theorem dX12_passes_85 : decode cX12_passes 85 = .ok (.ifCond .lt 29, 3) := by decide +kernel
theorem dX12_passes_88 : decode cX12_passes 88 = .ok (.aload_n 0, 1) := by decide +kernel
theorem dX12_passes_89 : decode cX12_passes 89 = .ok (.getfield 7, 3) := by decide +kernel
theorem dX12_passes_92 : decode cX12_passes 92 = .ok (.bipush 91, 2) := by decide +kernel
theorem dX12_passes_94 : decode cX12_passes 94 = .ok (.iload 5, 2) := by decide +kernel
theorem dX12_passes_96 : decode cX12_passes 96 = .ok (.iadd, 1) := by decide +kernel
theorem dX12_passes_97 : decode cX12_passes 97 = .ok (.iaload, 1) := by decide +kernel
theorem dX12_passes_98 : decode cX12_passes 98 = .ok (.aload_n 0, 1) := by decide +kernel
theorem dX12_passes_99 : decode cX12_passes 99 = .ok (.getfield 7, 3) := by decide +kernel
theorem dX12_passes_102 : decode cX12_passes 102 = .ok (.bipush 91, 2) := by decide +kernel
theorem dX12_passes_104 : decode cX12_passes 104 = .ok (.iload_n 3, 1) := by decide +kernel
theorem dX12_passes_105 : decode cX12_passes 105 = .ok (.iadd, 1) := by decide +kernel
theorem dX12_passes_106 : decode cX12_passes 106 = .ok (.iaload, 1) := by decide +kernel
theorem dX12_passes_107 : decode cX12_passes 107 = .ok (.if_icmp .ne 7, 3) := by decide +kernel
theorem dX12_passes_110 : decode cX12_passes 110 = .ok (.iconst 1, 1) := by decide +kernel
theorem dX12_passes_111 : decode cX12_passes 111 = .ok (.goto 4, 3) := by decide +kernel
theorem dX12_passes_114 : decode cX12_passes 114 = .ok (.iconst 0, 1) := by decide +kernel
theorem dX12_passes_115 : decode cX12_passes 115 = .ok (.istore 6, 2) := by decide +kernel
theorem dX12_passes_117 : decode cX12_passes 117 = .ok (.iload 4, 2) := by decide +kernel
theorem dX12_passes_119 : decode cX12_passes 119 = .ok (.iload 6, 2) := by decide +kernel
theorem dX12_passes_121 : decode cX12_passes 121 = .ok (.ifCond .eq 18, 3) := by decide +kernel
theorem dX12_passes_124 : decode cX12_passes 124 = .ok (.aload_n 0, 1) := by decide +kernel
theorem dX12_passes_125 : decode cX12_passes 125 = .ok (.iload 5, 2) := by decide +kernel
theorem dX12_passes_127 : decode cX12_passes 127 = .ok (.iload_n 2, 1) := by decide +kernel
theorem dX12_passes_128 : decode cX12_passes 128 = .ok (.iload_n 1, 1) := by decide +kernel
theorem dX12_passes_129 : decode cX12_passes 129 = .ok (.invokevirtual 84, 3) := by decide +kernel
theorem dX12_passes_132 : decode cX12_passes 132 = .ok (.ifCond .eq 7, 3) := by decide +kernel
theorem dX12_passes_135 : decode cX12_passes 135 = .ok (.iconst 1, 1) := by decide +kernel
theorem dX12_passes_136 : decode cX12_passes 136 = .ok (.goto 4, 3) := by decide +kernel
theorem dX12_passes_139 : decode cX12_passes 139 = .ok (.iconst 0, 1) := by decide +kernel
theorem dX12_passes_140 : decode cX12_passes 140 = .ok (.ior, 1) := by decide +kernel
theorem dX12_passes_141 : decode cX12_passes 141 = .ok (.istore 4, 2) := by decide +kernel
theorem dX12_passes_143 : decode cX12_passes 143 = .ok (.iinc 5 1, 3) := by decide +kernel
theorem dX12_passes_146 : decode cX12_passes 146 = .ok (.goto (-109), 3) := by decide +kernel
theorem dX12_passes_149 : decode cX12_passes 149 = .ok (.sipush 491, 3) := by decide +kernel
theorem dX12_passes_152 : decode cX12_passes 152 = .ok (.bipush 8, 2) := by decide +kernel
theorem dX12_passes_154 : decode cX12_passes 154 = .ok (.iload_n 3, 1) := by decide +kernel
theorem dX12_passes_155 : decode cX12_passes 155 = .ok (.imul, 1) := by decide +kernel
theorem dX12_passes_156 : decode cX12_passes 156 = .ok (.iadd, 1) := by decide +kernel
theorem dX12_passes_157 : decode cX12_passes 157 = .ok (.iload_n 2, 1) := by decide +kernel
theorem dX12_passes_158 : decode cX12_passes 158 = .ok (.iadd, 1) := by decide +kernel
theorem dX12_passes_159 : decode cX12_passes 159 = .ok (.istore 5, 2) := by decide +kernel
theorem dX12_passes_161 : decode cX12_passes 161 = .ok (.aload_n 0, 1) := by decide +kernel
theorem dX12_passes_162 : decode cX12_passes 162 = .ok (.getfield 7, 3) := by decide +kernel
theorem dX12_passes_165 : decode cX12_passes 165 = .ok (.iload 5, 2) := by decide +kernel
theorem dX12_passes_167 : decode cX12_passes 167 = .ok (.iload 4, 2) := by decide +kernel
theorem dX12_passes_169 : decode cX12_passes 169 = .ok (.ifCond .eq 19, 3) := by decide +kernel
theorem dX12_passes_172 : decode cX12_passes 172 = .ok (.aload_n 0, 1) := by decide +kernel
theorem dX12_passes_173 : decode cX12_passes 173 = .ok (.getfield 7, 3) := by decide +kernel
theorem dX12_passes_176 : decode cX12_passes 176 = .ok (.iload 5, 2) := by decide +kernel
theorem dX12_passes_178 : decode cX12_passes 178 = .ok (.iaload, 1) := by decide +kernel
theorem dX12_passes_179 : decode cX12_passes 179 = .ok (.ifCond .ge 9, 3) := by decide +kernel
theorem dX12_passes_182 : decode cX12_passes 182 = .ok (.iload_n 1, 1) := by decide +kernel
theorem dX12_passes_183 : decode cX12_passes 183 = .ok (.iconst 1, 1) := by decide +kernel
theorem dX12_passes_184 : decode cX12_passes 184 = .ok (.iadd, 1) := by decide +kernel
theorem dX12_passes_185 : decode cX12_passes 185 = .ok (.goto 10, 3) := by decide +kernel
theorem dX12_passes_188 : decode cX12_passes 188 = .ok (.aload_n 0, 1) := by decide +kernel
theorem dX12_passes_189 : decode cX12_passes 189 = .ok (.getfield 7, 3) := by decide +kernel
theorem dX12_passes_192 : decode cX12_passes 192 = .ok (.iload 5, 2) := by decide +kernel
theorem dX12_passes_194 : decode cX12_passes 194 = .ok (.iaload, 1) := by decide +kernel
theorem dX12_passes_195 : decode cX12_passes 195 = .ok (.iastore, 1) := by decide +kernel
theorem dX12_passes_196 : decode cX12_passes 196 = .ok (.iinc 3 1, 3) := by decide +kernel
theorem dX12_passes_199 : decode cX12_passes 199 = .ok (.goto (-178), 3) := by decide +kernel
theorem dX12_passes_202 : decode cX12_passes 202 = .ok (.iinc 2 1, 3) := by decide +kernel
theorem dX12_passes_205 : decode cX12_passes 205 = .ok (.goto (-196), 3) := by decide +kernel
theorem dX12_passes_208 : decode cX12_passes 208 = .ok (.aload_n 0, 1) := by decide +kernel
theorem dX12_passes_209 : decode cX12_passes 209 = .ok (.getfield 7, 3) := by decide +kernel
theorem dX12_passes_212 : decode cX12_passes 212 = .ok (.iconst 0, 1) := by decide +kernel
theorem dX12_passes_213 : decode cX12_passes 213 = .ok (.dup2, 1) := by decide +kernel
theorem dX12_passes_214 : decode cX12_passes 214 = .ok (.iaload, 1) := by decide +kernel
theorem dX12_passes_215 : decode cX12_passes 215 = .ok (.iconst 1, 1) := by decide +kernel
theorem dX12_passes_216 : decode cX12_passes 216 = .ok (.iadd, 1) := by decide +kernel
theorem dX12_passes_217 : decode cX12_passes 217 = .ok (.iastore, 1) := by decide +kernel
theorem dX12_passes_218 : decode cX12_passes 218 = .ok (.return_, 1) := by decide +kernel
theorem dX12_isWet_0 : decode cX12_isWet 0 = .ok (.iconst 0, 1) := by decide +kernel
theorem dX12_isWet_1 : decode cX12_isWet 1 = .ok (.istore_n 2, 1) := by decide +kernel
theorem dX12_isWet_2 : decode cX12_isWet 2 = .ok (.iload_n 2, 1) := by decide +kernel
theorem dX12_isWet_3 : decode cX12_isWet 3 = .ok (.aload_n 0, 1) := by decide +kernel
theorem dX12_isWet_4 : decode cX12_isWet 4 = .ok (.getfield 7, 3) := by decide +kernel
theorem dX12_isWet_7 : decode cX12_isWet 7 = .ok (.bipush 6, 2) := by decide +kernel
theorem dX12_isWet_9 : decode cX12_isWet 9 = .ok (.iaload, 1) := by decide +kernel
theorem dX12_isWet_10 : decode cX12_isWet 10 = .ok (.if_icmp .ge 24, 3) := by decide +kernel
theorem dX12_isWet_13 : decode cX12_isWet 13 = .ok (.aload_n 0, 1) := by decide +kernel
theorem dX12_isWet_14 : decode cX12_isWet 14 = .ok (.getfield 7, 3) := by decide +kernel
theorem dX12_isWet_17 : decode cX12_isWet 17 = .ok (.bipush 55, 2) := by decide +kernel
theorem dX12_isWet_19 : decode cX12_isWet 19 = .ok (.iload_n 2, 1) := by decide +kernel
theorem dX12_isWet_20 : decode cX12_isWet 20 = .ok (.iadd, 1) := by decide +kernel
theorem dX12_isWet_21 : decode cX12_isWet 21 = .ok (.iaload, 1) := by decide +kernel
theorem dX12_isWet_22 : decode cX12_isWet 22 = .ok (.iload_n 1, 1) := by decide +kernel
theorem dX12_isWet_23 : decode cX12_isWet 23 = .ok (.if_icmp .ne 5, 3) := by decide +kernel
theorem dX12_isWet_26 : decode cX12_isWet 26 = .ok (.iconst 1, 1) := by decide +kernel
theorem dX12_isWet_27 : decode cX12_isWet 27 = .ok (.ireturn, 1) := by decide +kernel
theorem dX12_isWet_28 : decode cX12_isWet 28 = .ok (.iinc 2 1, 3) := by decide +kernel
theorem dX12_isWet_31 : decode cX12_isWet 31 = .ok (.goto (-29), 3) := by decide +kernel
theorem dX12_isWet_34 : decode cX12_isWet 34 = .ok (.iconst 0, 1) := by decide +kernel
theorem dX12_isWet_35 : decode cX12_isWet 35 = .ok (.ireturn, 1) := by decide +kernel
set_option maxRecDepth 20000 in
theorem ggX12_wet_X12_isDay : GoodIn wsX12_wet wsX12_isDay := goodIn_r _ [5, 6, 7, 4, 8] (by decide +kernel) (by decide +kernel)
set_option maxRecDepth 20000 in
theorem gX12_wet_X12_isDay : GoodIn wsX12_wet (va_wsS RX12 87 yX12_isDay wsX12_isDay) := goodIn_app (goodIn_of _ (by decide +kernel)) ggX12_wet_X12_isDay
set_option maxRecDepth 20000 in
theorem ggX12_wet_X12_isWet : GoodIn wsX12_wet wsX12_isWet := goodIn_r _ [12, 1, 13, 14, 15, 16, 17, 18, 19, 20, 21, 22, 23, 24, 25, 26, 27, 28, 29, 30, 31, 32, 33, 34, 35, 36, 37, 38, 39, 40, 41, 42, 43, 44, 45, 46, 47, 48, 49, 50, 51, 52, 53, 54, 55] (by decide +kernel) (by decide +kernel)
set_option maxRecDepth 20000 in
theorem gX12_wet_X12_isWet : GoodIn wsX12_wet (wsV RX12 91 RX12 yX12_isWet wsX12_isWet) := goodIn_app (goodIn_of _ (by decide +kernel)) ggX12_wet_X12_isWet
theorem dX12_wet_0 : decode cX12_wet 0 = .ok (.iload_n 1, 1) := by decide +kernel
theorem dX12_wet_1 : decode cX12_wet 1 = .ok (.invokestatic 87, 3) := by decide +kernel
theorem dX12_wet_4 : decode cX12_wet 4 = .ok (.ifCond .ne 5, 3) := by decide +kernel
theorem dX12_wet_7 : decode cX12_wet 7 = .ok (.iconst (-1), 1) := by decide +kernel
theorem dX12_wet_8 : decode cX12_wet 8 = .ok (.ireturn, 1) := by decide +kernel
theorem dX12_wet_9 : decode cX12_wet 9 = .ok (.aload_n 0, 1) := by decide +kernel
theorem dX12_wet_10 : decode cX12_wet 10 = .ok (.iload_n 1, 1) := by decide +kernel
theorem dX12_wet_11 : decode cX12_wet 11 = .ok (.invokevirtual 91, 3) := by decide +kernel
theorem dX12_wet_14 : decode cX12_wet 14 = .ok (.ifCond .eq 6, 3) := by decide +kernel
theorem dX12_wet_17 : decode cX12_wet 17 = .ok (.bipush (-4), 2) := by decide +kernel
theorem dX12_wet_19 : decode cX12_wet 19 = .ok (.ireturn, 1) := by decide +kernel
theorem dX12_wet_20 : decode cX12_wet 20 = .ok (.aload_n 0, 1) := by decide +kernel
theorem dX12_wet_21 : decode cX12_wet 21 = .ok (.getfield 7, 3) := by decide +kernel
theorem dX12_wet_24 : decode cX12_wet 24 = .ok (.bipush 6, 2) := by decide +kernel
theorem dX12_wet_26 : decode cX12_wet 26 = .ok (.iaload, 1) := by decide +kernel
theorem dX12_wet_27 : decode cX12_wet 27 = .ok (.bipush 20, 2) := by decide +kernel
theorem dX12_wet_29 : decode cX12_wet 29 = .ok (.if_icmp .ne 6, 3) := by decide +kernel
theorem dX12_wet_32 : decode cX12_wet 32 = .ok (.bipush (-2), 2) := by decide +kernel
theorem dX12_wet_34 : decode cX12_wet 34 = .ok (.ireturn, 1) := by decide +kernel
theorem dX12_wet_35 : decode cX12_wet 35 = .ok (.aload_n 0, 1) := by decide +kernel
theorem dX12_wet_36 : decode cX12_wet 36 = .ok (.getfield 7, 3) := by decide +kernel
theorem dX12_wet_39 : decode cX12_wet 39 = .ok (.bipush 55, 2) := by decide +kernel
theorem dX12_wet_41 : decode cX12_wet 41 = .ok (.aload_n 0, 1) := by decide +kernel
theorem dX12_wet_42 : decode cX12_wet 42 = .ok (.getfield 7, 3) := by decide +kernel
theorem dX12_wet_45 : decode cX12_wet 45 = .ok (.bipush 6, 2) := by decide +kernel
theorem dX12_wet_47 : decode cX12_wet 47 = .ok (.iaload, 1) := by decide +kernel
theorem dX12_wet_48 : decode cX12_wet 48 = .ok (.iadd, 1) := by decide +kernel
theorem dX12_wet_49 : decode cX12_wet 49 = .ok (.iload_n 1, 1) := by decide +kernel
theorem dX12_wet_50 : decode cX12_wet 50 = .ok (.iastore, 1) := by decide +kernel
theorem dX12_wet_51 : decode cX12_wet 51 = .ok (.aload_n 0, 1) := by decide +kernel
theorem dX12_wet_52 : decode cX12_wet 52 = .ok (.getfield 7, 3) := by decide +kernel
theorem dX12_wet_55 : decode cX12_wet 55 = .ok (.bipush 6, 2) := by decide +kernel
theorem dX12_wet_57 : decode cX12_wet 57 = .ok (.dup2, 1) := by decide +kernel
theorem dX12_wet_58 : decode cX12_wet 58 = .ok (.iaload, 1) := by decide +kernel
theorem dX12_wet_59 : decode cX12_wet 59 = .ok (.iconst 1, 1) := by decide +kernel
theorem dX12_wet_60 : decode cX12_wet 60 = .ok (.iadd, 1) := by decide +kernel
theorem dX12_wet_61 : decode cX12_wet 61 = .ok (.iastore, 1) := by decide +kernel
theorem dX12_wet_62 : decode cX12_wet 62 = .ok (.aload_n 0, 1) := by decide +kernel
theorem dX12_wet_63 : decode cX12_wet 63 = .ok (.getfield 7, 3) := by decide +kernel
theorem dX12_wet_66 : decode cX12_wet 66 = .ok (.bipush 6, 2) := by decide +kernel
theorem dX12_wet_68 : decode cX12_wet 68 = .ok (.iaload, 1) := by decide +kernel
theorem dX12_wet_69 : decode cX12_wet 69 = .ok (.ireturn, 1) := by decide +kernel
set_option maxRecDepth 20000 in
theorem ggX12_fear_X12_isMan : GoodIn wsX12_fear wsX12_isMan := goodIn_r _ [6, 1, 7, 8, 5, 9, 10, 11, 12, 13, 14, 15, 16, 17, 18, 19, 20, 21, 22, 23, 24, 25, 26, 27, 28, 29, 30, 31, 32, 33, 34, 35, 36, 37, 38, 39, 40, 41, 42, 43, 44, 45, 46, 47, 48, 49, 50, 51, 52] (by decide +kernel) (by decide +kernel)
set_option maxRecDepth 20000 in
theorem gX12_fear_X12_isMan : GoodIn wsX12_fear (wsV RX12 100 RX12 yX12_isMan wsX12_isMan) := goodIn_app (goodIn_of _ (by decide +kernel)) ggX12_fear_X12_isMan
set_option maxRecDepth 20000 in
theorem ggX12_fear_X12_in : GoodIn wsX12_fear wsX12_in := goodIn_r _ [9] (by decide +kernel) (by decide +kernel)
set_option maxRecDepth 20000 in
theorem gX12_fear_X12_in : GoodIn wsX12_fear (va_wsS RX12 77 yX12_in wsX12_in) := goodIn_app (goodIn_of _ (by decide +kernel)) ggX12_fear_X12_in
theorem dX12_fear_0 : decode cX12_fear 0 = .ok (.aload_n 0, 1) := by decide +kernel
theorem dX12_fear_1 : decode cX12_fear 1 = .ok (.iload_n 1, 1) := by decide +kernel
theorem dX12_fear_2 : decode cX12_fear 2 = .ok (.invokevirtual 100, 3) := by decide +kernel
theorem dX12_fear_5 : decode cX12_fear 5 = .ok (.ifCond .eq 26, 3) := by decide +kernel
theorem dX12_fear_8 : decode cX12_fear 8 = .ok (.aload_n 0, 1) := by decide +kernel
theorem dX12_fear_9 : decode cX12_fear 9 = .ok (.iload_n 2, 1) := by decide +kernel
theorem dX12_fear_10 : decode cX12_fear 10 = .ok (.invokevirtual 100, 3) := by decide +kernel
theorem dX12_fear_13 : decode cX12_fear 13 = .ok (.ifCond .eq 18, 3) := by decide +kernel
theorem dX12_fear_16 : decode cX12_fear 16 = .ok (.iload_n 1, 1) := by decide +kernel
theorem dX12_fear_17 : decode cX12_fear 17 = .ok (.iload_n 2, 1) := by decide +kernel
theorem dX12_fear_18 : decode cX12_fear 18 = .ok (.if_icmp .eq 13, 3) := by decide +kernel
theorem dX12_fear_21 : decode cX12_fear 21 = .ok (.iload_n 3, 1) := by decide +kernel
theorem dX12_fear_22 : decode cX12_fear 22 = .ok (.iconst 0, 1) := by decide +kernel
theorem dX12_fear_23 : decode cX12_fear 23 = .ok (.bipush 9, 2) := by decide +kernel
theorem dX12_fear_25 : decode cX12_fear 25 = .ok (.invokestatic 77, 3) := by decide +kernel
theorem dX12_fear_28 : decode cX12_fear 28 = .ok (.ifCond .ne 5, 3) := by decide +kernel
theorem dX12_fear_31 : decode cX12_fear 31 = .ok (.iconst (-1), 1) := by decide +kernel
theorem dX12_fear_32 : decode cX12_fear 32 = .ok (.ireturn, 1) := by decide +kernel
theorem dX12_fear_33 : decode cX12_fear 33 = .ok (.aload_n 0, 1) := by decide +kernel
theorem dX12_fear_34 : decode cX12_fear 34 = .ok (.getfield 7, 3) := by decide +kernel
theorem dX12_fear_37 : decode cX12_fear 37 = .ok (.sipush 219, 3) := by decide +kernel
theorem dX12_fear_40 : decode cX12_fear 40 = .ok (.bipush 16, 2) := by decide +kernel
theorem dX12_fear_42 : decode cX12_fear 42 = .ok (.iload_n 1, 1) := by decide +kernel
theorem dX12_fear_43 : decode cX12_fear 43 = .ok (.imul, 1) := by decide +kernel
theorem dX12_fear_44 : decode cX12_fear 44 = .ok (.iadd, 1) := by decide +kernel
theorem dX12_fear_45 : decode cX12_fear 45 = .ok (.iload_n 2, 1) := by decide +kernel
theorem dX12_fear_46 : decode cX12_fear 46 = .ok (.iadd, 1) := by decide +kernel
theorem dX12_fear_47 : decode cX12_fear 47 = .ok (.iaload, 1) := by decide +kernel
theorem dX12_fear_48 : decode cX12_fear 48 = .ok (.istore 4, 2) := by decide +kernel
theorem dX12_fear_50 : decode cX12_fear 50 = .ok (.aload_n 0, 1) := by decide +kernel
theorem dX12_fear_51 : decode cX12_fear 51 = .ok (.getfield 7, 3) := by decide +kernel
theorem dX12_fear_54 : decode cX12_fear 54 = .ok (.sipush 219, 3) := by decide +kernel
theorem dX12_fear_57 : decode cX12_fear 57 = .ok (.bipush 16, 2) := by decide +kernel
theorem dX12_fear_59 : decode cX12_fear 59 = .ok (.iload_n 1, 1) := by decide +kernel
theorem dX12_fear_60 : decode cX12_fear 60 = .ok (.imul, 1) := by decide +kernel
theorem dX12_fear_61 : decode cX12_fear 61 = .ok (.iadd, 1) := by decide +kernel
theorem dX12_fear_62 : decode cX12_fear 62 = .ok (.iload_n 2, 1) := by decide +kernel
theorem dX12_fear_63 : decode cX12_fear 63 = .ok (.iadd, 1) := by decide +kernel
theorem dX12_fear_64 : decode cX12_fear 64 = .ok (.iload_n 3, 1) := by decide +kernel
theorem dX12_fear_65 : decode cX12_fear 65 = .ok (.iastore, 1) := by decide +kernel
theorem dX12_fear_66 : decode cX12_fear 66 = .ok (.iload 4, 2) := by decide +kernel
theorem dX12_fear_68 : decode cX12_fear 68 = .ok (.ireturn, 1) := by decide +kernel
set_option maxRecDepth 20000 in
theorem ggX12_dreadOf_X12_had : GoodIn wsX12_dreadOf wsX12_had := goodIn_r _ [6, 1, 7, 8, 9, 10, 11, 12, 13, 14, 15, 16, 17, 18, 19, 20, 21, 22, 23, 24, 25, 26, 27, 28, 29, 30, 31, 32, 33, 34, 35, 36, 37, 38, 39, 40, 41, 42, 43, 44, 45, 46, 47, 48, 49] (by decide +kernel) (by decide +kernel)
set_option maxRecDepth 20000 in
theorem gX12_dreadOf_X12_had : GoodIn wsX12_dreadOf (wsV RX12 84 RX12 yX12_had wsX12_had) := goodIn_app (goodIn_of _ (by decide +kernel)) ggX12_dreadOf_X12_had
theorem dX12_dreadOf_0 : decode cX12_dreadOf 0 = .ok (.aload_n 0, 1) := by decide +kernel
theorem dX12_dreadOf_1 : decode cX12_dreadOf 1 = .ok (.getfield 7, 3) := by decide +kernel
theorem dX12_dreadOf_4 : decode cX12_dreadOf 4 = .ok (.sipush 219, 3) := by decide +kernel
theorem dX12_dreadOf_7 : decode cX12_dreadOf 7 = .ok (.bipush 16, 2) := by decide +kernel
theorem dX12_dreadOf_9 : decode cX12_dreadOf 9 = .ok (.iload_n 1, 1) := by decide +kernel
theorem dX12_dreadOf_10 : decode cX12_dreadOf 10 = .ok (.imul, 1) := by decide +kernel
theorem dX12_dreadOf_11 : decode cX12_dreadOf 11 = .ok (.iadd, 1) := by decide +kernel
theorem dX12_dreadOf_12 : decode cX12_dreadOf 12 = .ok (.iload_n 2, 1) := by decide +kernel
theorem dX12_dreadOf_13 : decode cX12_dreadOf 13 = .ok (.iadd, 1) := by decide +kernel
theorem dX12_dreadOf_14 : decode cX12_dreadOf 14 = .ok (.iaload, 1) := by decide +kernel
theorem dX12_dreadOf_15 : decode cX12_dreadOf 15 = .ok (.istore 4, 2) := by decide +kernel
theorem dX12_dreadOf_17 : decode cX12_dreadOf 17 = .ok (.iconst 0, 1) := by decide +kernel
theorem dX12_dreadOf_18 : decode cX12_dreadOf 18 = .ok (.istore 5, 2) := by decide +kernel
theorem dX12_dreadOf_20 : decode cX12_dreadOf 20 = .ok (.iload 5, 2) := by decide +kernel
theorem dX12_dreadOf_22 : decode cX12_dreadOf 22 = .ok (.aload_n 0, 1) := by decide +kernel
theorem dX12_dreadOf_23 : decode cX12_dreadOf 23 = .ok (.getfield 7, 3) := by decide +kernel
theorem dX12_dreadOf_26 : decode cX12_dreadOf 26 = .ok (.iconst 3, 1) := by decide +kernel
theorem dX12_dreadOf_27 : decode cX12_dreadOf 27 = .ok (.iaload, 1) := by decide +kernel
theorem dX12_dreadOf_28 : decode cX12_dreadOf 28 = .ok (.if_icmp .ge 55, 3) := by decide +kernel
theorem dX12_dreadOf_31 : decode cX12_dreadOf 31 = .ok (.iload 4, 2) := by decide +kernel
theorem dX12_dreadOf_33 : decode cX12_dreadOf 33 = .ok (.aload_n 0, 1) := by decide +kernel
theorem dX12_dreadOf_34 : decode cX12_dreadOf 34 = .ok (.getfield 7, 3) := by decide +kernel
theorem dX12_dreadOf_37 : decode cX12_dreadOf 37 = .ok (.sipush 475, 3) := by decide +kernel
theorem dX12_dreadOf_40 : decode cX12_dreadOf 40 = .ok (.iload 5, 2) := by decide +kernel
theorem dX12_dreadOf_42 : decode cX12_dreadOf 42 = .ok (.iadd, 1) := by decide +kernel
theorem dX12_dreadOf_43 : decode cX12_dreadOf 43 = .ok (.iaload, 1) := by decide +kernel
theorem dX12_dreadOf_44 : decode cX12_dreadOf 44 = .ok (.iload_n 2, 1) := by decide +kernel
theorem dX12_dreadOf_45 : decode cX12_dreadOf 45 = .ok (.if_icmp .ne 28, 3) := by decide +kernel
theorem dX12_dreadOf_48 : decode cX12_dreadOf 48 = .ok (.aload_n 0, 1) := by decide +kernel
theorem dX12_dreadOf_49 : decode cX12_dreadOf 49 = .ok (.iload_n 1, 1) := by decide +kernel
theorem dX12_dreadOf_50 : decode cX12_dreadOf 50 = .ok (.iload 5, 2) := by decide +kernel
theorem dX12_dreadOf_52 : decode cX12_dreadOf 52 = .ok (.iload_n 3, 1) := by decide +kernel
theorem dX12_dreadOf_53 : decode cX12_dreadOf 53 = .ok (.invokevirtual 84, 3) := by decide +kernel
theorem dX12_dreadOf_56 : decode cX12_dreadOf 56 = .ok (.ifCond .eq 17, 3) := by decide +kernel
theorem dX12_dreadOf_59 : decode cX12_dreadOf 59 = .ok (.aload_n 0, 1) := by decide +kernel
theorem dX12_dreadOf_60 : decode cX12_dreadOf 60 = .ok (.getfield 7, 3) := by decide +kernel
theorem dX12_dreadOf_63 : decode cX12_dreadOf 63 = .ok (.sipush 483, 3) := by decide +kernel
theorem dX12_dreadOf_66 : decode cX12_dreadOf 66 = .ok (.iload 5, 2) := by decide +kernel
theorem dX12_dreadOf_68 : decode cX12_dreadOf 68 = .ok (.iadd, 1) := by decide +kernel
theorem dX12_dreadOf_69 : decode cX12_dreadOf 69 = .ok (.iaload, 1) := by decide +kernel
theorem dX12_dreadOf_70 : decode cX12_dreadOf 70 = .ok (.goto 4, 3) := by decide +kernel
theorem dX12_dreadOf_73 : decode cX12_dreadOf 73 = .ok (.iconst 0, 1) := by decide +kernel
theorem dX12_dreadOf_74 : decode cX12_dreadOf 74 = .ok (.iadd, 1) := by decide +kernel
theorem dX12_dreadOf_75 : decode cX12_dreadOf 75 = .ok (.istore 4, 2) := by decide +kernel
theorem dX12_dreadOf_77 : decode cX12_dreadOf 77 = .ok (.iinc 5 1, 3) := by decide +kernel
theorem dX12_dreadOf_80 : decode cX12_dreadOf 80 = .ok (.goto (-60), 3) := by decide +kernel
theorem dX12_dreadOf_83 : decode cX12_dreadOf 83 = .ok (.iload 4, 2) := by decide +kernel
theorem dX12_dreadOf_85 : decode cX12_dreadOf 85 = .ok (.ifCond .ge 7, 3) := by decide +kernel
theorem dX12_dreadOf_88 : decode cX12_dreadOf 88 = .ok (.iconst 0, 1) := by decide +kernel
theorem dX12_dreadOf_89 : decode cX12_dreadOf 89 = .ok (.goto 17, 3) := by decide +kernel
theorem dX12_dreadOf_92 : decode cX12_dreadOf 92 = .ok (.iload 4, 2) := by decide +kernel
theorem dX12_dreadOf_94 : decode cX12_dreadOf 94 = .ok (.bipush 20, 2) := by decide +kernel
theorem dX12_dreadOf_96 : decode cX12_dreadOf 96 = .ok (.if_icmp .le 8, 3) := by decide +kernel
theorem dX12_dreadOf_99 : decode cX12_dreadOf 99 = .ok (.bipush 20, 2) := by decide +kernel
theorem dX12_dreadOf_101 : decode cX12_dreadOf 101 = .ok (.goto 5, 3) := by decide +kernel
theorem dX12_dreadOf_104 : decode cX12_dreadOf 104 = .ok (.iload 4, 2) := by decide +kernel
theorem dX12_dreadOf_106 : decode cX12_dreadOf 106 = .ok (.ireturn, 1) := by decide +kernel
