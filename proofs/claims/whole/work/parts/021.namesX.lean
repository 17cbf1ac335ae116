theorem dX0_init_0 : decode cX0_init 0 = .ok (.aload_n 0, 1) := by decide +kernel
theorem dX0_init_1 : decode cX0_init 1 = .ok (.invokespecial 3, 3) := by decide +kernel
theorem dX0_init_4 : decode cX0_init 4 = .ok (.aload_n 0, 1) := by decide +kernel
theorem dX0_init_5 : decode cX0_init 5 = .ok (.sipush 160, 3) := by decide +kernel
theorem dX0_init_8 : decode cX0_init 8 = .ok (.newarray .int, 2) := by decide +kernel
theorem dX0_init_10 : decode cX0_init 10 = .ok (.putfield 9, 3) := by decide +kernel
theorem dX0_init_13 : decode cX0_init 13 = .ok (.aload_n 0, 1) := by decide +kernel
theorem dX0_init_14 : decode cX0_init 14 = .ok (.sipush 160, 3) := by decide +kernel
theorem dX0_init_17 : decode cX0_init 17 = .ok (.newarray .int, 2) := by decide +kernel
theorem dX0_init_19 : decode cX0_init 19 = .ok (.putfield 15, 3) := by decide +kernel
theorem dX0_init_22 : decode cX0_init 22 = .ok (.aload_n 0, 1) := by decide +kernel
theorem dX0_init_23 : decode cX0_init 23 = .ok (.sipush 160, 3) := by decide +kernel
theorem dX0_init_26 : decode cX0_init 26 = .ok (.newarray .int, 2) := by decide +kernel
theorem dX0_init_28 : decode cX0_init 28 = .ok (.putfield 18, 3) := by decide +kernel
theorem dX0_init_31 : decode cX0_init 31 = .ok (.aload_n 0, 1) := by decide +kernel
theorem dX0_init_32 : decode cX0_init 32 = .ok (.sipush 160, 3) := by decide +kernel
theorem dX0_init_35 : decode cX0_init 35 = .ok (.newarray .boolean, 2) := by decide +kernel
theorem dX0_init_37 : decode cX0_init 37 = .ok (.putfield 21, 3) := by decide +kernel
theorem dX0_init_40 : decode cX0_init 40 = .ok (.aload_n 0, 1) := by decide +kernel
theorem dX0_init_41 : decode cX0_init 41 = .ok (.iconst 0, 1) := by decide +kernel
theorem dX0_init_42 : decode cX0_init 42 = .ok (.putfield 25, 3) := by decide +kernel
theorem dX0_init_45 : decode cX0_init 45 = .ok (.return_, 1) := by decide +kernel
theorem dX0_has_0 : decode cX0_has 0 = .ok (.iload_n 1, 1) := by decide +kernel
theorem dX0_has_1 : decode cX0_has 1 = .ok (.ifCond .lt 15, 3) := by decide +kernel
theorem dX0_has_4 : decode cX0_has 4 = .ok (.iload_n 1, 1) := by decide +kernel
theorem dX0_has_5 : decode cX0_has 5 = .ok (.aload_n 0, 1) := by decide +kernel
theorem dX0_has_6 : decode cX0_has 6 = .ok (.getfield 25, 3) := by decide +kernel
theorem dX0_has_9 : decode cX0_has 9 = .ok (.if_icmp .ge 7, 3) := by decide +kernel
theorem dX0_has_12 : decode cX0_has 12 = .ok (.iconst 1, 1) := by decide +kernel
theorem dX0_has_13 : decode cX0_has 13 = .ok (.goto 4, 3) := by decide +kernel
theorem dX0_has_16 : decode cX0_has 16 = .ok (.iconst 0, 1) := by decide +kernel
theorem dX0_has_17 : decode cX0_has 17 = .ok (.ireturn, 1) := by decide +kernel
set_option maxRecDepth 20000 in
theorem ggX0_isLive_X0_has : GoodIn wsX0_isLive wsX0_has := goodIn_r _ [7, 8, 9, 10, 11, 12, 13] (by decide +kernel) (by decide +kernel)
set_option maxRecDepth 20000 in
theorem gX0_isLive_X0_has : GoodIn wsX0_isLive (wsV RX0 29 RX0 yX0_has wsX0_has) := goodIn_app (goodIn_of _ (by decide +kernel)) ggX0_isLive_X0_has
theorem dX0_isLive_0 : decode cX0_isLive 0 = .ok (.aload_n 0, 1) := by decide +kernel
theorem dX0_isLive_1 : decode cX0_isLive 1 = .ok (.iload_n 1, 1) := by decide +kernel
theorem dX0_isLive_2 : decode cX0_isLive 2 = .ok (.invokevirtual 29, 3) := by decide +kernel
theorem dX0_isLive_5 : decode cX0_isLive 5 = .ok (.ifCond .eq 26, 3) := by decide +kernel
theorem dX0_isLive_8 : decode cX0_isLive 8 = .ok (.aload_n 0, 1) := by decide +kernel
theorem dX0_isLive_9 : decode cX0_isLive 9 = .ok (.getfield 18, 3) := by decide +kernel
theorem dX0_isLive_12 : decode cX0_isLive 12 = .ok (.iload_n 1, 1) := by decide +kernel
theorem dX0_isLive_13 : decode cX0_isLive 13 = .ok (.iaload, 1) := by decide +kernel
theorem dX0_isLive_14 : decode cX0_isLive 14 = .ok (.iconst 2, 1) := by decide +kernel
theorem dX0_isLive_15 : decode cX0_isLive 15 = .ok (.if_icmp .eq 16, 3) := by decide +kernel
theorem dX0_isLive_18 : decode cX0_isLive 18 = .ok (.aload_n 0, 1) := by decide +kernel
theorem dX0_isLive_19 : decode cX0_isLive 19 = .ok (.getfield 21, 3) := by decide +kernel
theorem dX0_isLive_22 : decode cX0_isLive 22 = .ok (.iload_n 1, 1) := by decide +kernel
theorem dX0_isLive_23 : decode cX0_isLive 23 = .ok (.baload, 1) := by decide +kernel
theorem dX0_isLive_24 : decode cX0_isLive 24 = .ok (.ifCond .ne 7, 3) := by decide +kernel
theorem dX0_isLive_27 : decode cX0_isLive 27 = .ok (.iconst 1, 1) := by decide +kernel
theorem dX0_isLive_28 : decode cX0_isLive 28 = .ok (.goto 4, 3) := by decide +kernel
theorem dX0_isLive_31 : decode cX0_isLive 31 = .ok (.iconst 0, 1) := by decide +kernel
theorem dX0_isLive_32 : decode cX0_isLive 32 = .ok (.ireturn, 1) := by decide +kernel
set_option maxRecDepth 20000 in
theorem ggX0_isWaiting_X0_has : GoodIn wsX0_isWaiting wsX0_has := goodIn_r _ [6, 7, 8, 9, 10, 11, 12] (by decide +kernel) (by decide +kernel)
set_option maxRecDepth 20000 in
theorem gX0_isWaiting_X0_has : GoodIn wsX0_isWaiting (wsV RX0 29 RX0 yX0_has wsX0_has) := goodIn_app (goodIn_of _ (by decide +kernel)) ggX0_isWaiting_X0_has
theorem dX0_isWaiting_0 : decode cX0_isWaiting 0 = .ok (.aload_n 0, 1) := by decide +kernel
theorem dX0_isWaiting_1 : decode cX0_isWaiting 1 = .ok (.iload_n 1, 1) := by decide +kernel
theorem dX0_isWaiting_2 : decode cX0_isWaiting 2 = .ok (.invokevirtual 29, 3) := by decide +kernel
theorem dX0_isWaiting_5 : decode cX0_isWaiting 5 = .ok (.ifCond .eq 16, 3) := by decide +kernel
theorem dX0_isWaiting_8 : decode cX0_isWaiting 8 = .ok (.aload_n 0, 1) := by decide +kernel
theorem dX0_isWaiting_9 : decode cX0_isWaiting 9 = .ok (.getfield 18, 3) := by decide +kernel
theorem dX0_isWaiting_12 : decode cX0_isWaiting 12 = .ok (.iload_n 1, 1) := by decide +kernel
theorem dX0_isWaiting_13 : decode cX0_isWaiting 13 = .ok (.iaload, 1) := by decide +kernel
theorem dX0_isWaiting_14 : decode cX0_isWaiting 14 = .ok (.ifCond .ne 7, 3) := by decide +kernel
theorem dX0_isWaiting_17 : decode cX0_isWaiting 17 = .ok (.iconst 1, 1) := by decide +kernel
theorem dX0_isWaiting_18 : decode cX0_isWaiting 18 = .ok (.goto 4, 3) := by decide +kernel
theorem dX0_isWaiting_21 : decode cX0_isWaiting 21 = .ok (.iconst 0, 1) := by decide +kernel
theorem dX0_isWaiting_22 : decode cX0_isWaiting 22 = .ok (.ireturn, 1) := by decide +kernel
theorem dX0_append_0 : decode cX0_append 0 = .ok (.aload_n 0, 1) := by decide +kernel
theorem dX0_append_1 : decode cX0_append 1 = .ok (.getfield 25, 3) := by decide +kernel
theorem dX0_append_4 : decode cX0_append 4 = .ok (.sipush 160, 3) := by decide +kernel
theorem dX0_append_7 : decode cX0_append 7 = .ok (.if_icmp .lt 6, 3) := by decide +kernel
theorem dX0_append_10 : decode cX0_append 10 = .ok (.bipush (-6), 2) := by decide +kernel
theorem dX0_append_12 : decode cX0_append 12 = .ok (.ireturn, 1) := by decide +kernel
theorem dX0_append_13 : decode cX0_append 13 = .ok (.aload_n 0, 1) := by decide +kernel
theorem dX0_append_14 : decode cX0_append 14 = .ok (.getfield 25, 3) := by decide +kernel
theorem dX0_append_17 : decode cX0_append 17 = .ok (.istore 4, 2) := by decide +kernel
theorem dX0_append_19 : decode cX0_append 19 = .ok (.aload_n 0, 1) := by decide +kernel
theorem dX0_append_20 : decode cX0_append 20 = .ok (.getfield 9, 3) := by decide +kernel
theorem dX0_append_23 : decode cX0_append 23 = .ok (.iload 4, 2) := by decide +kernel
theorem dX0_append_25 : decode cX0_append 25 = .ok (.iload_n 1, 1) := by decide +kernel
theorem dX0_append_26 : decode cX0_append 26 = .ok (.iastore, 1) := by decide +kernel
theorem dX0_append_27 : decode cX0_append 27 = .ok (.aload_n 0, 1) := by decide +kernel
theorem dX0_append_28 : decode cX0_append 28 = .ok (.getfield 15, 3) := by decide +kernel
theorem dX0_append_31 : decode cX0_append 31 = .ok (.iload 4, 2) := by decide +kernel
theorem dX0_append_33 : decode cX0_append 33 = .ok (.iload_n 2, 1) := by decide +kernel
theorem dX0_append_34 : decode cX0_append 34 = .ok (.iastore, 1) := by decide +kernel
theorem dX0_append_35 : decode cX0_append 35 = .ok (.aload_n 0, 1) := by decide +kernel
theorem dX0_append_36 : decode cX0_append 36 = .ok (.getfield 18, 3) := by decide +kernel
theorem dX0_append_39 : decode cX0_append 39 = .ok (.iload 4, 2) := by decide +kernel
theorem dX0_append_41 : decode cX0_append 41 = .ok (.iload_n 3, 1) := by decide +kernel
theorem dX0_append_42 : decode cX0_append 42 = .ok (.iastore, 1) := by decide +kernel
theorem dX0_append_43 : decode cX0_append 43 = .ok (.aload_n 0, 1) := by decide +kernel
theorem dX0_append_44 : decode cX0_append 44 = .ok (.getfield 21, 3) := by decide +kernel
theorem dX0_append_47 : decode cX0_append 47 = .ok (.iload 4, 2) := by decide +kernel
theorem dX0_append_49 : decode cX0_append 49 = .ok (.iconst 0, 1) := by decide +kernel
theorem dX0_append_50 : decode cX0_append 50 = .ok (.bastore, 1) := by decide +kernel
theorem dX0_append_51 : decode cX0_append 51 = .ok (.aload_n 0, 1) := by decide +kernel
theorem dX0_append_52 : decode cX0_append 52 = .ok (.dup, 1) := by decide +kernel
theorem dX0_append_53 : decode cX0_append 53 = .ok (.getfield 25, 3) := by decide +kernel
theorem dX0_append_56 : decode cX0_append 56 = .ok (.iconst 1, 1) := by decide +kernel
theorem dX0_append_57 : decode cX0_append 57 = .ok (.iadd, 1) := by decide +kernel
theorem dX0_append_58 : decode cX0_append 58 = .ok (.putfield 25, 3) := by decide +kernel
theorem dX0_append_61 : decode cX0_append 61 = .ok (.iload 4, 2) := by decide +kernel
theorem dX0_append_63 : decode cX0_append 63 = .ok (.ireturn, 1) := by decide +kernel
theorem dX0_settle_0 : decode cX0_settle 0 = .ok (.iconst 0, 1) := by decide +kernel
theorem dX0_settle_1 : decode cX0_settle 1 = .ok (.istore_n 1, 1) := by decide +kernel
theorem dX0_settle_2 : decode cX0_settle 2 = .ok (.iconst 0, 1) := by decide +kernel
theorem dX0_settle_3 : decode cX0_settle 3 = .ok (.istore_n 2, 1) := by decide +kernel
theorem dX0_settle_4 : decode cX0_settle 4 = .ok (.iload_n 2, 1) := by decide +kernel
theorem dX0_settle_5 : decode cX0_settle 5 = .ok (.aload_n 0, 1) := by decide +kernel
theorem dX0_settle_6 : decode cX0_settle 6 = .ok (.getfield 25, 3) := by decide +kernel
theorem dX0_settle_9 : decode cX0_settle 9 = .ok (.if_icmp .ge 44, 3) := by decide +kernel
theorem dX0_settle_12 : decode cX0_settle 12 = .ok (.aload_n 0, 1) := by decide +kernel
theorem dX0_settle_13 : decode cX0_settle 13 = .ok (.getfield 21, 3) := by decide +kernel
theorem dX0_settle_16 : decode cX0_settle 16 = .ok (.iload_n 2, 1) := by decide +kernel
theorem dX0_settle_17 : decode cX0_settle 17 = .ok (.baload, 1) := by decide +kernel
theorem dX0_settle_18 : decode cX0_settle 18 = .ok (.ifCond .eq 7, 3) := by decide +kernel
theorem dX0_settle_21 : decode cX0_settle 21 = .ok (.iconst 2, 1) := by decide +kernel
theorem dX0_settle_22 : decode cX0_settle 22 = .ok (.goto 4, 3) := by decide +kernel
theorem dX0_settle_25 : decode cX0_settle 25 = .ok (.iconst 1, 1) := by decide +kernel
theorem dX0_settle_26 : decode cX0_settle 26 = .ok (.istore_n 3, 1) := by decide +kernel
theorem dX0_settle_27 : decode cX0_settle 27 = .ok (.aload_n 0, 1) := by decide +kernel
theorem dX0_settle_28 : decode cX0_settle 28 = .ok (.getfield 18, 3) := by decide +kernel
theorem dX0_settle_31 : decode cX0_settle 31 = .ok (.iload_n 2, 1) := by decide +kernel
theorem dX0_settle_32 : decode cX0_settle 32 = .ok (.iaload, 1) := by decide +kernel
theorem dX0_settle_33 : decode cX0_settle 33 = .ok (.iload_n 3, 1) := by decide +kernel
theorem dX0_settle_34 : decode cX0_settle 34 = .ok (.if_icmp .eq 13, 3) := by decide +kernel
theorem dX0_settle_37 : decode cX0_settle 37 = .ok (.aload_n 0, 1) := by decide +kernel
theorem dX0_settle_38 : decode cX0_settle 38 = .ok (.getfield 18, 3) := by decide +kernel
theorem dX0_settle_41 : decode cX0_settle 41 = .ok (.iload_n 2, 1) := by decide +kernel
theorem dX0_settle_42 : decode cX0_settle 42 = .ok (.iload_n 3, 1) := by decide +kernel
theorem dX0_settle_43 : decode cX0_settle 43 = .ok (.iastore, 1) := by decide +kernel
theorem dX0_settle_44 : decode cX0_settle 44 = .ok (.iinc 1 1, 3) := by decide +kernel
theorem dX0_settle_47 : decode cX0_settle 47 = .ok (.iinc 2 1, 3) := by decide +kernel
theorem dX0_settle_50 : decode cX0_settle 50 = .ok (.goto (-46), 3) := by decide +kernel
theorem dX0_settle_53 : decode cX0_settle 53 = .ok (.iload_n 1, 1) := by decide +kernel
theorem dX0_settle_54 : decode cX0_settle 54 = .ok (.ireturn, 1) := by decide +kernel
set_option maxRecDepth 20000 in
theorem ggX0_renumber_X0_append : GoodIn wsX0_renumber wsX0_append := goodIn_r _ [9, 1, 3, 4, 2, 10, 11, 12, 13, 14, 15] (by decide +kernel) (by decide +kernel)
set_option maxRecDepth 20000 in
theorem gX0_renumber_X0_append : GoodIn wsX0_renumber (wsV RX0 33 RX0 yX0_append wsX0_append) := goodIn_app (goodIn_of _ (by decide +kernel)) ggX0_renumber_X0_append
theorem dX0_renumber_0 : decode cX0_renumber 0 = .ok (.aload_n 0, 1) := by decide +kernel
theorem dX0_renumber_1 : decode cX0_renumber 1 = .ok (.getfield 25, 3) := by decide +kernel
theorem dX0_renumber_4 : decode cX0_renumber 4 = .ok (.istore_n 2, 1) := by decide +kernel
theorem dX0_renumber_5 : decode cX0_renumber 5 = .ok (.aload_n 0, 1) := by decide +kernel
theorem dX0_renumber_6 : decode cX0_renumber 6 = .ok (.iconst 0, 1) := by decide +kernel
theorem dX0_renumber_7 : decode cX0_renumber 7 = .ok (.putfield 25, 3) := by decide +kernel
theorem dX0_renumber_10 : decode cX0_renumber 10 = .ok (.iconst 0, 1) := by decide +kernel
theorem dX0_renumber_11 : decode cX0_renumber 11 = .ok (.istore_n 3, 1) := by decide +kernel
theorem dX0_renumber_12 : decode cX0_renumber 12 = .ok (.iload_n 3, 1) := by decide +kernel
theorem dX0_renumber_13 : decode cX0_renumber 13 = .ok (.iload_n 2, 1) := by decide +kernel
theorem dX0_renumber_14 : decode cX0_renumber 14 = .ok (.if_icmp .ge 60, 3) := by decide +kernel
theorem dX0_renumber_17 : decode cX0_renumber 17 = .ok (.aload_n 0, 1) := by decide +kernel
theorem dX0_renumber_18 : decode cX0_renumber 18 = .ok (.getfield 18, 3) := by decide +kernel
theorem dX0_renumber_21 : decode cX0_renumber 21 = .ok (.iload_n 3, 1) := by decide +kernel
theorem dX0_renumber_22 : decode cX0_renumber 22 = .ok (.iaload, 1) := by decide +kernel
theorem dX0_renumber_23 : decode cX0_renumber 23 = .ok (.iconst 2, 1) := by decide +kernel
theorem dX0_renumber_24 : decode cX0_renumber 24 = .ok (.if_icmp .eq 7, 3) := by decide +kernel
theorem dX0_renumber_27 : decode cX0_renumber 27 = .ok (.iconst 1, 1) := by decide +kernel
theorem dX0_renumber_28 : decode cX0_renumber 28 = .ok (.goto 4, 3) := by decide +kernel
theorem dX0_renumber_31 : decode cX0_renumber 31 = .ok (.iconst 0, 1) := by decide +kernel
theorem dX0_renumber_32 : decode cX0_renumber 32 = .ok (.istore 4, 2) := by decide +kernel
theorem dX0_renumber_34 : decode cX0_renumber 34 = .ok (.aload_n 1, 1) := by decide +kernel
theorem dX0_renumber_35 : decode cX0_renumber 35 = .ok (.iload_n 3, 1) := by decide +kernel
theorem dX0_renumber_36 : decode cX0_renumber 36 = .ok (.iload 4, 2) := by decide +kernel
theorem dX0_renumber_38 : decode cX0_renumber 38 = .ok (.ifCond .eq 28, 3) := by decide +kernel
theorem dX0_renumber_41 : decode cX0_renumber 41 = .ok (.aload_n 0, 1) := by decide +kernel
theorem dX0_renumber_42 : decode cX0_renumber 42 = .ok (.aload_n 0, 1) := by decide +kernel
theorem dX0_renumber_43 : decode cX0_renumber 43 = .ok (.getfield 9, 3) := by decide +kernel
theorem dX0_renumber_46 : decode cX0_renumber 46 = .ok (.iload_n 3, 1) := by decide +kernel
theorem dX0_renumber_47 : decode cX0_renumber 47 = .ok (.iaload, 1) := by decide +kernel
theorem dX0_renumber_48 : decode cX0_renumber 48 = .ok (.aload_n 0, 1) := by decide +kernel
theorem dX0_renumber_49 : decode cX0_renumber 49 = .ok (.getfield 15, 3) := by decide +kernel
theorem dX0_renumber_52 : decode cX0_renumber 52 = .ok (.iload_n 3, 1) := by decide +kernel
theorem dX0_renumber_53 : decode cX0_renumber 53 = .ok (.iaload, 1) := by decide +kernel
theorem dX0_renumber_54 : decode cX0_renumber 54 = .ok (.aload_n 0, 1) := by decide +kernel
theorem dX0_renumber_55 : decode cX0_renumber 55 = .ok (.getfield 18, 3) := by decide +kernel
theorem dX0_renumber_58 : decode cX0_renumber 58 = .ok (.iload_n 3, 1) := by decide +kernel
theorem dX0_renumber_59 : decode cX0_renumber 59 = .ok (.iaload, 1) := by decide +kernel
theorem dX0_renumber_60 : decode cX0_renumber 60 = .ok (.invokevirtual 33, 3) := by decide +kernel
theorem dX0_renumber_63 : decode cX0_renumber 63 = .ok (.goto 4, 3) := by decide +kernel
theorem dX0_renumber_66 : decode cX0_renumber 66 = .ok (.iconst (-1), 1) := by decide +kernel
theorem dX0_renumber_67 : decode cX0_renumber 67 = .ok (.iastore, 1) := by decide +kernel
theorem dX0_renumber_68 : decode cX0_renumber 68 = .ok (.iinc 3 1, 3) := by decide +kernel
theorem dX0_renumber_71 : decode cX0_renumber 71 = .ok (.goto (-59), 3) := by decide +kernel
theorem dX0_renumber_74 : decode cX0_renumber 74 = .ok (.return_, 1) := by decide +kernel
theorem dX0_countInState_0 : decode cX0_countInState 0 = .ok (.iconst 0, 1) := by decide +kernel
theorem dX0_countInState_1 : decode cX0_countInState 1 = .ok (.istore_n 2, 1) := by decide +kernel
theorem dX0_countInState_2 : decode cX0_countInState 2 = .ok (.iconst 0, 1) := by decide +kernel
theorem dX0_countInState_3 : decode cX0_countInState 3 = .ok (.istore_n 3, 1) := by decide +kernel
theorem dX0_countInState_4 : decode cX0_countInState 4 = .ok (.iload_n 3, 1) := by decide +kernel
theorem dX0_countInState_5 : decode cX0_countInState 5 = .ok (.aload_n 0, 1) := by decide +kernel
theorem dX0_countInState_6 : decode cX0_countInState 6 = .ok (.getfield 25, 3) := by decide +kernel
theorem dX0_countInState_9 : decode cX0_countInState 9 = .ok (.if_icmp .ge 22, 3) := by decide +kernel
theorem dX0_countInState_12 : decode cX0_countInState 12 = .ok (.aload_n 0, 1) := by decide +kernel
theorem dX0_countInState_13 : decode cX0_countInState 13 = .ok (.getfield 18, 3) := by decide +kernel
theorem dX0_countInState_16 : decode cX0_countInState 16 = .ok (.iload_n 3, 1) := by decide +kernel
theorem dX0_countInState_17 : decode cX0_countInState 17 = .ok (.iaload, 1) := by decide +kernel
theorem dX0_countInState_18 : decode cX0_countInState 18 = .ok (.iload_n 1, 1) := by decide +kernel
theorem dX0_countInState_19 : decode cX0_countInState 19 = .ok (.if_icmp .ne 6, 3) := by decide +kernel
theorem dX0_countInState_22 : decode cX0_countInState 22 = .ok (.iinc 2 1, 3) := by decide +kernel
theorem dX0_countInState_25 : decode cX0_countInState 25 = .ok (.iinc 3 1, 3) := by decide +kernel
theorem dX0_countInState_28 : decode cX0_countInState 28 = .ok (.goto (-24), 3) := by decide +kernel
theorem dX0_countInState_31 : decode cX0_countInState 31 = .ok (.iload_n 2, 1) := by decide +kernel
theorem dX0_countInState_32 : decode cX0_countInState 32 = .ok (.ireturn, 1) := by decide +kernel
set_option maxRecDepth 20000 in
theorem ggX0_countLive_X0_isLive : GoodIn wsX0_countLive wsX0_isLive := goodIn_r _ [6, 7, 8, 9, 10, 11, 5, 12, 1, 13, 14, 15, 16, 17] (by decide +kernel) (by decide +kernel)
set_option maxRecDepth 20000 in
theorem gX0_countLive_X0_isLive : GoodIn wsX0_countLive (wsV RX0 37 RX0 yX0_isLive wsX0_isLive) := goodIn_app (goodIn_of _ (by decide +kernel)) ggX0_countLive_X0_isLive
theorem dX0_countLive_0 : decode cX0_countLive 0 = .ok (.iconst 0, 1) := by decide +kernel
theorem dX0_countLive_1 : decode cX0_countLive 1 = .ok (.istore_n 1, 1) := by decide +kernel
theorem dX0_countLive_2 : decode cX0_countLive 2 = .ok (.iconst 0, 1) := by decide +kernel
theorem dX0_countLive_3 : decode cX0_countLive 3 = .ok (.istore_n 2, 1) := by decide +kernel
theorem dX0_countLive_4 : decode cX0_countLive 4 = .ok (.iload_n 2, 1) := by decide +kernel
theorem dX0_countLive_5 : decode cX0_countLive 5 = .ok (.aload_n 0, 1) := by decide +kernel
theorem dX0_countLive_6 : decode cX0_countLive 6 = .ok (.getfield 25, 3) := by decide +kernel
theorem dX0_countLive_9 : decode cX0_countLive 9 = .ok (.if_icmp .ge 20, 3) := by decide +kernel
theorem dX0_countLive_12 : decode cX0_countLive 12 = .ok (.aload_n 0, 1) := by decide +kernel
theorem dX0_countLive_13 : decode cX0_countLive 13 = .ok (.iload_n 2, 1) := by decide +kernel
theorem dX0_countLive_14 : decode cX0_countLive 14 = .ok (.invokevirtual 37, 3) := by decide +kernel
theorem dX0_countLive_17 : decode cX0_countLive 17 = .ok (.ifCond .eq 6, 3) := by decide +kernel
theorem dX0_countLive_20 : decode cX0_countLive 20 = .ok (.iinc 1 1, 3) := by decide +kernel
theorem dX0_countLive_23 : decode cX0_countLive 23 = .ok (.iinc 2 1, 3) := by decide +kernel
theorem dX0_countLive_26 : decode cX0_countLive 26 = .ok (.goto (-22), 3) := by decide +kernel
theorem dX0_countLive_29 : decode cX0_countLive 29 = .ok (.iload_n 1, 1) := by decide +kernel
theorem dX0_countLive_30 : decode cX0_countLive 30 = .ok (.ireturn, 1) := by decide +kernel
set_option maxRecDepth 20000 in
theorem ggX0_countLiveBetween_X0_isLive : GoodIn wsX0_countLiveBetween wsX0_isLive := goodIn_r _ [8, 9, 10, 11, 12, 13, 7, 14, 1, 15, 16, 17, 18, 19] (by decide +kernel) (by decide +kernel)
set_option maxRecDepth 20000 in
theorem gX0_countLiveBetween_X0_isLive : GoodIn wsX0_countLiveBetween (wsV RX0 37 RX0 yX0_isLive wsX0_isLive) := goodIn_app (goodIn_of _ (by decide +kernel)) ggX0_countLiveBetween_X0_isLive
theorem dX0_countLiveBetween_0 : decode cX0_countLiveBetween 0 = .ok (.iconst 0, 1) := by decide +kernel
theorem dX0_countLiveBetween_1 : decode cX0_countLiveBetween 1 = .ok (.istore_n 3, 1) := by decide +kernel
theorem dX0_countLiveBetween_2 : decode cX0_countLiveBetween 2 = .ok (.iconst 0, 1) := by decide +kernel
theorem dX0_countLiveBetween_3 : decode cX0_countLiveBetween 3 = .ok (.istore 4, 2) := by decide +kernel
theorem dX0_countLiveBetween_5 : decode cX0_countLiveBetween 5 = .ok (.iload 4, 2) := by decide +kernel
theorem dX0_countLiveBetween_7 : decode cX0_countLiveBetween 7 = .ok (.aload_n 0, 1) := by decide +kernel
theorem dX0_countLiveBetween_8 : decode cX0_countLiveBetween 8 = .ok (.getfield 25, 3) := by decide +kernel
theorem dX0_countLiveBetween_11 : decode cX0_countLiveBetween 11 = .ok (.if_icmp .ge 43, 3) := by decide +kernel
theorem dX0_countLiveBetween_14 : decode cX0_countLiveBetween 14 = .ok (.aload_n 0, 1) := by decide +kernel
theorem dX0_countLiveBetween_15 : decode cX0_countLiveBetween 15 = .ok (.iload 4, 2) := by decide +kernel
theorem dX0_countLiveBetween_17 : decode cX0_countLiveBetween 17 = .ok (.invokevirtual 37, 3) := by decide +kernel
theorem dX0_countLiveBetween_20 : decode cX0_countLiveBetween 20 = .ok (.ifCond .eq 28, 3) := by decide +kernel
theorem dX0_countLiveBetween_23 : decode cX0_countLiveBetween 23 = .ok (.aload_n 0, 1) := by decide +kernel
theorem dX0_countLiveBetween_24 : decode cX0_countLiveBetween 24 = .ok (.getfield 9, 3) := by decide +kernel
theorem dX0_countLiveBetween_27 : decode cX0_countLiveBetween 27 = .ok (.iload 4, 2) := by decide +kernel
theorem dX0_countLiveBetween_29 : decode cX0_countLiveBetween 29 = .ok (.iaload, 1) := by decide +kernel
theorem dX0_countLiveBetween_30 : decode cX0_countLiveBetween 30 = .ok (.iload_n 1, 1) := by decide +kernel
theorem dX0_countLiveBetween_31 : decode cX0_countLiveBetween 31 = .ok (.if_icmp .ne 17, 3) := by decide +kernel
theorem dX0_countLiveBetween_34 : decode cX0_countLiveBetween 34 = .ok (.aload_n 0, 1) := by decide +kernel
theorem dX0_countLiveBetween_35 : decode cX0_countLiveBetween 35 = .ok (.getfield 15, 3) := by decide +kernel
theorem dX0_countLiveBetween_38 : decode cX0_countLiveBetween 38 = .ok (.iload 4, 2) := by decide +kernel
theorem dX0_countLiveBetween_40 : decode cX0_countLiveBetween 40 = .ok (.iaload, 1) := by decide +kernel
theorem dX0_countLiveBetween_41 : decode cX0_countLiveBetween 41 = .ok (.iload_n 2, 1) := by decide +kernel
theorem dX0_countLiveBetween_42 : decode cX0_countLiveBetween 42 = .ok (.if_icmp .ne 6, 3) := by decide +kernel
theorem dX0_countLiveBetween_45 : decode cX0_countLiveBetween 45 = .ok (.iinc 3 1, 3) := by decide +kernel
theorem dX0_countLiveBetween_48 : decode cX0_countLiveBetween 48 = .ok (.iinc 4 1, 3) := by decide +kernel
theorem dX0_countLiveBetween_51 : decode cX0_countLiveBetween 51 = .ok (.goto (-46), 3) := by decide +kernel
theorem dX0_countLiveBetween_54 : decode cX0_countLiveBetween 54 = .ok (.iload_n 3, 1) := by decide +kernel
theorem dX0_countLiveBetween_55 : decode cX0_countLiveBetween 55 = .ok (.ireturn, 1) := by decide +kernel
theorem dX1_init_0 : decode cX1_init 0 = .ok (.aload_n 0, 1) := by decide +kernel
theorem dX1_init_1 : decode cX1_init 1 = .ok (.invokespecial 3, 3) := by decide +kernel
theorem dX1_init_4 : decode cX1_init 4 = .ok (.aload_n 0, 1) := by decide +kernel
theorem dX1_init_5 : decode cX1_init 5 = .ok (.bipush 25, 2) := by decide +kernel
theorem dX1_init_7 : decode cX1_init 7 = .ok (.newarray .int, 2) := by decide +kernel
theorem dX1_init_9 : decode cX1_init 9 = .ok (.putfield 9, 3) := by decide +kernel
theorem dX1_init_12 : decode cX1_init 12 = .ok (.aload_n 0, 1) := by decide +kernel
theorem dX1_init_13 : decode cX1_init 13 = .ok (.sipush 160, 3) := by decide +kernel
theorem dX1_init_16 : decode cX1_init 16 = .ok (.newarray .int, 2) := by decide +kernel
theorem dX1_init_18 : decode cX1_init 18 = .ok (.putfield 15, 3) := by decide +kernel
theorem dX1_init_21 : decode cX1_init 21 = .ok (.return_, 1) := by decide +kernel
set_option maxRecDepth 20000 in
theorem ggX1_firstFault_X1_isOffsetRight : GoodIn wsX1_firstFault wsX1_isOffsetRight := goodIn_r _ [6, 7, 8, 9] (by decide +kernel) (by decide +kernel)
set_option maxRecDepth 20000 in
theorem gX1_firstFault_X1_isOffsetRight : GoodIn wsX1_firstFault (wsV RX1 18 RX1 yX1_isOffsetRight wsX1_isOffsetRight) := goodIn_app (goodIn_of _ (by decide +kernel)) ggX1_firstFault_X1_isOffsetRight
theorem dX1_firstFault_0 : decode cX1_firstFault 0 = .ok (.iconst 0, 1) := by decide +kernel
theorem dX1_firstFault_1 : decode cX1_firstFault 1 = .ok (.istore_n 3, 1) := by decide +kernel
theorem dX1_firstFault_2 : decode cX1_firstFault 2 = .ok (.iload_n 3, 1) := by decide +kernel
theorem dX1_firstFault_3 : decode cX1_firstFault 3 = .ok (.iload_n 1, 1) := by decide +kernel
theorem dX1_firstFault_4 : decode cX1_firstFault 4 = .ok (.if_icmp .gt 23, 3) := by decide +kernel
theorem dX1_firstFault_7 : decode cX1_firstFault 7 = .ok (.aload_n 0, 1) := by decide +kernel
theorem dX1_firstFault_8 : decode cX1_firstFault 8 = .ok (.iload_n 3, 1) := by decide +kernel
theorem dX1_firstFault_9 : decode cX1_firstFault 9 = .ok (.iload_n 1, 1) := by decide +kernel
theorem dX1_firstFault_10 : decode cX1_firstFault 10 = .ok (.iload_n 2, 1) := by decide +kernel
theorem dX1_firstFault_11 : decode cX1_firstFault 11 = .ok (.invokevirtual 18, 3) := by decide +kernel
theorem dX1_firstFault_14 : decode cX1_firstFault 14 = .ok (.ifCond .ne 7, 3) := by decide +kernel
theorem dX1_firstFault_17 : decode cX1_firstFault 17 = .ok (.iconst 1, 1) := by decide +kernel
theorem dX1_firstFault_18 : decode cX1_firstFault 18 = .ok (.iload_n 3, 1) := by decide +kernel
theorem dX1_firstFault_19 : decode cX1_firstFault 19 = .ok (.iadd, 1) := by decide +kernel
theorem dX1_firstFault_20 : decode cX1_firstFault 20 = .ok (.ireturn, 1) := by decide +kernel
theorem dX1_firstFault_21 : decode cX1_firstFault 21 = .ok (.iinc 3 1, 3) := by decide +kernel
theorem dX1_firstFault_24 : decode cX1_firstFault 24 = .ok (.goto (-22), 3) := by decide +kernel
theorem dX1_firstFault_27 : decode cX1_firstFault 27 = .ok (.iconst 0, 1) := by decide +kernel
theorem dX1_firstFault_28 : decode cX1_firstFault 28 = .ok (.istore_n 3, 1) := by decide +kernel
theorem dX1_firstFault_29 : decode cX1_firstFault 29 = .ok (.iload_n 3, 1) := by decide +kernel
theorem dX1_firstFault_30 : decode cX1_firstFault 30 = .ok (.iload_n 2, 1) := by decide +kernel
theorem dX1_firstFault_31 : decode cX1_firstFault 31 = .ok (.if_icmp .ge 33, 3) := by decide +kernel
theorem dX1_firstFault_34 : decode cX1_firstFault 34 = .ok (.aload_n 0, 1) := by decide +kernel
theorem dX1_firstFault_35 : decode cX1_firstFault 35 = .ok (.getfield 15, 3) := by decide +kernel
theorem dX1_firstFault_38 : decode cX1_firstFault 38 = .ok (.iload_n 3, 1) := by decide +kernel
theorem dX1_firstFault_39 : decode cX1_firstFault 39 = .ok (.iaload, 1) := by decide +kernel
theorem dX1_firstFault_40 : decode cX1_firstFault 40 = .ok (.ifCond .lt 13, 3) := by decide +kernel
theorem dX1_firstFault_43 : decode cX1_firstFault 43 = .ok (.aload_n 0, 1) := by decide +kernel
theorem dX1_firstFault_44 : decode cX1_firstFault 44 = .ok (.getfield 15, 3) := by decide +kernel
theorem dX1_firstFault_47 : decode cX1_firstFault 47 = .ok (.iload_n 3, 1) := by decide +kernel
theorem dX1_firstFault_48 : decode cX1_firstFault 48 = .ok (.iaload, 1) := by decide +kernel
theorem dX1_firstFault_49 : decode cX1_firstFault 49 = .ok (.iload_n 1, 1) := by decide +kernel
theorem dX1_firstFault_50 : decode cX1_firstFault 50 = .ok (.if_icmp .lt 8, 3) := by decide +kernel
theorem dX1_firstFault_53 : decode cX1_firstFault 53 = .ok (.bipush 100, 2) := by decide +kernel
theorem dX1_firstFault_55 : decode cX1_firstFault 55 = .ok (.iload_n 3, 1) := by decide +kernel
theorem dX1_firstFault_56 : decode cX1_firstFault 56 = .ok (.iadd, 1) := by decide +kernel
theorem dX1_firstFault_57 : decode cX1_firstFault 57 = .ok (.ireturn, 1) := by decide +kernel
theorem dX1_firstFault_58 : decode cX1_firstFault 58 = .ok (.iinc 3 1, 3) := by decide +kernel
theorem dX1_firstFault_61 : decode cX1_firstFault 61 = .ok (.goto (-32), 3) := by decide +kernel
theorem dX1_firstFault_64 : decode cX1_firstFault 64 = .ok (.iconst 0, 1) := by decide +kernel
theorem dX1_firstFault_65 : decode cX1_firstFault 65 = .ok (.ireturn, 1) := by decide +kernel
theorem dX1_isOffsetRight_0 : decode cX1_isOffsetRight 0 = .ok (.iload_n 1, 1) := by decide +kernel
theorem dX1_isOffsetRight_1 : decode cX1_isOffsetRight 1 = .ok (.ifCond .ne 7, 3) := by decide +kernel
theorem dX1_isOffsetRight_4 : decode cX1_isOffsetRight 4 = .ok (.iconst 0, 1) := by decide +kernel
theorem dX1_isOffsetRight_5 : decode cX1_isOffsetRight 5 = .ok (.goto 11, 3) := by decide +kernel
theorem dX1_isOffsetRight_8 : decode cX1_isOffsetRight 8 = .ok (.aload_n 0, 1) := by decide +kernel
theorem dX1_isOffsetRight_9 : decode cX1_isOffsetRight 9 = .ok (.getfield 9, 3) := by decide +kernel
theorem dX1_isOffsetRight_12 : decode cX1_isOffsetRight 12 = .ok (.iload_n 1, 1) := by decide +kernel
theorem dX1_isOffsetRight_13 : decode cX1_isOffsetRight 13 = .ok (.iconst 1, 1) := by decide +kernel
theorem dX1_isOffsetRight_14 : decode cX1_isOffsetRight 14 = .ok (.isub, 1) := by decide +kernel
theorem dX1_isOffsetRight_15 : decode cX1_isOffsetRight 15 = .ok (.iaload, 1) := by decide +kernel
theorem dX1_isOffsetRight_16 : decode cX1_isOffsetRight 16 = .ok (.istore 4, 2) := by decide +kernel
theorem dX1_isOffsetRight_18 : decode cX1_isOffsetRight 18 = .ok (.iload_n 1, 1) := by decide +kernel
theorem dX1_isOffsetRight_19 : decode cX1_isOffsetRight 19 = .ok (.ifCond .ne 7, 3) := by decide +kernel
theorem dX1_isOffsetRight_22 : decode cX1_isOffsetRight 22 = .ok (.iconst 0, 1) := by decide +kernel
theorem dX1_isOffsetRight_23 : decode cX1_isOffsetRight 23 = .ok (.goto 4, 3) := by decide +kernel
theorem dX1_isOffsetRight_26 : decode cX1_isOffsetRight 26 = .ok (.iload_n 3, 1) := by decide +kernel
theorem dX1_isOffsetRight_27 : decode cX1_isOffsetRight 27 = .ok (.istore 5, 2) := by decide +kernel
theorem dX1_isOffsetRight_29 : decode cX1_isOffsetRight 29 = .ok (.aload_n 0, 1) := by decide +kernel
theorem dX1_isOffsetRight_30 : decode cX1_isOffsetRight 30 = .ok (.getfield 9, 3) := by decide +kernel
theorem dX1_isOffsetRight_33 : decode cX1_isOffsetRight 33 = .ok (.iload_n 1, 1) := by decide +kernel
theorem dX1_isOffsetRight_34 : decode cX1_isOffsetRight 34 = .ok (.iaload, 1) := by decide +kernel
theorem dX1_isOffsetRight_35 : decode cX1_isOffsetRight 35 = .ok (.iload 4, 2) := by decide +kernel
theorem dX1_isOffsetRight_37 : decode cX1_isOffsetRight 37 = .ok (.if_icmp .lt 18, 3) := by decide +kernel
theorem dX1_isOffsetRight_40 : decode cX1_isOffsetRight 40 = .ok (.aload_n 0, 1) := by decide +kernel
theorem dX1_isOffsetRight_41 : decode cX1_isOffsetRight 41 = .ok (.getfield 9, 3) := by decide +kernel
theorem dX1_isOffsetRight_44 : decode cX1_isOffsetRight 44 = .ok (.iload_n 1, 1) := by decide +kernel
theorem dX1_isOffsetRight_45 : decode cX1_isOffsetRight 45 = .ok (.iaload, 1) := by decide +kernel
theorem dX1_isOffsetRight_46 : decode cX1_isOffsetRight 46 = .ok (.iload 5, 2) := by decide +kernel
theorem dX1_isOffsetRight_48 : decode cX1_isOffsetRight 48 = .ok (.if_icmp .gt 7, 3) := by decide +kernel
theorem dX1_isOffsetRight_51 : decode cX1_isOffsetRight 51 = .ok (.iconst 1, 1) := by decide +kernel
theorem dX1_isOffsetRight_52 : decode cX1_isOffsetRight 52 = .ok (.goto 4, 3) := by decide +kernel
theorem dX1_isOffsetRight_55 : decode cX1_isOffsetRight 55 = .ok (.iconst 0, 1) := by decide +kernel
theorem dX1_isOffsetRight_56 : decode cX1_isOffsetRight 56 = .ok (.istore 6, 2) := by decide +kernel
theorem dX1_isOffsetRight_58 : decode cX1_isOffsetRight 58 = .ok (.iload 6, 2) := by decide +kernel
theorem dX1_isOffsetRight_60 : decode cX1_isOffsetRight 60 = .ok (.ifCond .eq 22, 3) := by decide +kernel
theorem dX1_isOffsetRight_63 : decode cX1_isOffsetRight 63 = .ok (.iload_n 1, 1) := by decide +kernel
theorem dX1_isOffsetRight_64 : decode cX1_isOffsetRight 64 = .ok (.iload_n 2, 1) := by decide +kernel
theorem dX1_isOffsetRight_65 : decode cX1_isOffsetRight 65 = .ok (.if_icmp .lt 13, 3) := by decide +kernel
theorem dX1_isOffsetRight_68 : decode cX1_isOffsetRight 68 = .ok (.aload_n 0, 1) := by decide +kernel
theorem dX1_isOffsetRight_69 : decode cX1_isOffsetRight 69 = .ok (.getfield 9, 3) := by decide +kernel
theorem dX1_isOffsetRight_72 : decode cX1_isOffsetRight 72 = .ok (.iload_n 1, 1) := by decide +kernel
theorem dX1_isOffsetRight_73 : decode cX1_isOffsetRight 73 = .ok (.iaload, 1) := by decide +kernel
theorem dX1_isOffsetRight_74 : decode cX1_isOffsetRight 74 = .ok (.iload_n 3, 1) := by decide +kernel
theorem dX1_isOffsetRight_75 : decode cX1_isOffsetRight 75 = .ok (.if_icmp .ne 7, 3) := by decide +kernel
theorem dX1_isOffsetRight_78 : decode cX1_isOffsetRight 78 = .ok (.iconst 1, 1) := by decide +kernel
theorem dX1_isOffsetRight_79 : decode cX1_isOffsetRight 79 = .ok (.goto 4, 3) := by decide +kernel
theorem dX1_isOffsetRight_82 : decode cX1_isOffsetRight 82 = .ok (.iconst 0, 1) := by decide +kernel
theorem dX1_isOffsetRight_83 : decode cX1_isOffsetRight 83 = .ok (.ireturn, 1) := by decide +kernel
set_option maxRecDepth 20000 in
theorem ggX1_fill_X0_append : GoodIn wsX1_fill wsX0_append := goodIn_r _ [8, 9, 10, 11, 12, 13, 14, 15, 16, 17, 18] (by decide +kernel) (by decide +kernel)
set_option maxRecDepth 20000 in
theorem gX1_fill_X0_append : GoodIn wsX1_fill (wsV RX1 28 RX0 yX0_append wsX0_append) := goodIn_app (goodIn_of _ (by decide +kernel)) ggX1_fill_X0_append
theorem dX1_fill_0 : decode cX1_fill 0 = .ok (.aload_n 1, 1) := by decide +kernel
theorem dX1_fill_1 : decode cX1_fill 1 = .ok (.iconst 0, 1) := by decide +kernel
theorem dX1_fill_2 : decode cX1_fill 2 = .ok (.putfield 22, 3) := by decide +kernel
theorem dX1_fill_5 : decode cX1_fill 5 = .ok (.iconst 0, 1) := by decide +kernel
theorem dX1_fill_6 : decode cX1_fill 6 = .ok (.istore_n 3, 1) := by decide +kernel
theorem dX1_fill_7 : decode cX1_fill 7 = .ok (.iload_n 3, 1) := by decide +kernel
theorem dX1_fill_8 : decode cX1_fill 8 = .ok (.iload_n 2, 1) := by decide +kernel
theorem dX1_fill_9 : decode cX1_fill 9 = .ok (.if_icmp .ge 50, 3) := by decide +kernel
theorem dX1_fill_12 : decode cX1_fill 12 = .ok (.aload_n 0, 1) := by decide +kernel
theorem dX1_fill_13 : decode cX1_fill 13 = .ok (.getfield 9, 3) := by decide +kernel
theorem dX1_fill_16 : decode cX1_fill 16 = .ok (.iload_n 3, 1) := by decide +kernel
theorem dX1_fill_17 : decode cX1_fill 17 = .ok (.iaload, 1) := by decide +kernel
theorem dX1_fill_18 : decode cX1_fill 18 = .ok (.istore 4, 2) := by decide +kernel
theorem dX1_fill_20 : decode cX1_fill 20 = .ok (.iload 4, 2) := by decide +kernel
theorem dX1_fill_22 : decode cX1_fill 22 = .ok (.aload_n 0, 1) := by decide +kernel
theorem dX1_fill_23 : decode cX1_fill 23 = .ok (.getfield 9, 3) := by decide +kernel
theorem dX1_fill_26 : decode cX1_fill 26 = .ok (.iload_n 3, 1) := by decide +kernel
theorem dX1_fill_27 : decode cX1_fill 27 = .ok (.iconst 1, 1) := by decide +kernel
theorem dX1_fill_28 : decode cX1_fill 28 = .ok (.iadd, 1) := by decide +kernel
theorem dX1_fill_29 : decode cX1_fill 29 = .ok (.iaload, 1) := by decide +kernel
theorem dX1_fill_30 : decode cX1_fill 30 = .ok (.if_icmp .ge 23, 3) := by decide +kernel
theorem dX1_fill_33 : decode cX1_fill 33 = .ok (.aload_n 1, 1) := by decide +kernel
theorem dX1_fill_34 : decode cX1_fill 34 = .ok (.iload_n 3, 1) := by decide +kernel
theorem dX1_fill_35 : decode cX1_fill 35 = .ok (.aload_n 0, 1) := by decide +kernel
theorem dX1_fill_36 : decode cX1_fill 36 = .ok (.getfield 15, 3) := by decide +kernel
theorem dX1_fill_39 : decode cX1_fill 39 = .ok (.iload 4, 2) := by decide +kernel
theorem dX1_fill_41 : decode cX1_fill 41 = .ok (.iaload, 1) := by decide +kernel
theorem dX1_fill_42 : decode cX1_fill 42 = .ok (.iconst 1, 1) := by decide +kernel
theorem dX1_fill_43 : decode cX1_fill 43 = .ok (.invokevirtual 28, 3) := by decide +kernel
theorem dX1_fill_46 : decode cX1_fill 46 = .ok (.pop, 1) := by decide +kernel
theorem dX1_fill_47 : decode cX1_fill 47 = .ok (.iinc 4 1, 3) := by decide +kernel
theorem dX1_fill_50 : decode cX1_fill 50 = .ok (.goto (-30), 3) := by decide +kernel
theorem dX1_fill_53 : decode cX1_fill 53 = .ok (.iinc 3 1, 3) := by decide +kernel
theorem dX1_fill_56 : decode cX1_fill 56 = .ok (.goto (-49), 3) := by decide +kernel
theorem dX1_fill_59 : decode cX1_fill 59 = .ok (.return_, 1) := by decide +kernel
theorem dX2_init_0 : decode cX2_init 0 = .ok (.aload_n 0, 1) := by decide +kernel
theorem dX2_init_1 : decode cX2_init 1 = .ok (.invokespecial 3, 3) := by decide +kernel
theorem dX2_init_4 : decode cX2_init 4 = .ok (.aload_n 0, 1) := by decide +kernel
theorem dX2_init_5 : decode cX2_init 5 = .ok (.bipush 8, 2) := by decide +kernel
theorem dX2_init_7 : decode cX2_init 7 = .ok (.newarray .boolean, 2) := by decide +kernel
theorem dX2_init_9 : decode cX2_init 9 = .ok (.putfield 9, 3) := by decide +kernel
theorem dX2_init_12 : decode cX2_init 12 = .ok (.aload_n 0, 1) := by decide +kernel
theorem dX2_init_13 : decode cX2_init 13 = .ok (.bipush 8, 2) := by decide +kernel
theorem dX2_init_15 : decode cX2_init 15 = .ok (.newarray .boolean, 2) := by decide +kernel
theorem dX2_init_17 : decode cX2_init 17 = .ok (.putfield 15, 3) := by decide +kernel
theorem dX2_init_20 : decode cX2_init 20 = .ok (.aload_n 0, 1) := by decide +kernel
theorem dX2_init_21 : decode cX2_init 21 = .ok (.bipush 8, 2) := by decide +kernel
theorem dX2_init_23 : decode cX2_init 23 = .ok (.newarray .boolean, 2) := by decide +kernel
theorem dX2_init_25 : decode cX2_init 25 = .ok (.putfield 18, 3) := by decide +kernel
theorem dX2_init_28 : decode cX2_init 28 = .ok (.aload_n 0, 1) := by decide +kernel
theorem dX2_init_29 : decode cX2_init 29 = .ok (.bipush 8, 2) := by decide +kernel
theorem dX2_init_31 : decode cX2_init 31 = .ok (.newarray .int, 2) := by decide +kernel
theorem dX2_init_33 : decode cX2_init 33 = .ok (.putfield 21, 3) := by decide +kernel
theorem dX2_init_36 : decode cX2_init 36 = .ok (.aload_n 0, 1) := by decide +kernel
theorem dX2_init_37 : decode cX2_init 37 = .ok (.bipush 8, 2) := by decide +kernel
theorem dX2_init_39 : decode cX2_init 39 = .ok (.newarray .int, 2) := by decide +kernel
theorem dX2_init_41 : decode cX2_init 41 = .ok (.putfield 25, 3) := by decide +kernel
theorem dX2_init_44 : decode cX2_init 44 = .ok (.aload_n 0, 1) := by decide +kernel
theorem dX2_init_45 : decode cX2_init 45 = .ok (.bipush 8, 2) := by decide +kernel
theorem dX2_init_47 : decode cX2_init 47 = .ok (.newarray .int, 2) := by decide +kernel
theorem dX2_init_49 : decode cX2_init 49 = .ok (.putfield 28, 3) := by decide +kernel
theorem dX2_init_52 : decode cX2_init 52 = .ok (.return_, 1) := by decide +kernel
theorem dX2_has_0 : decode cX2_has 0 = .ok (.iload_n 1, 1) := by decide +kernel
theorem dX2_has_1 : decode cX2_has 1 = .ok (.ifCond .lt 22, 3) := by decide +kernel
theorem dX2_has_4 : decode cX2_has 4 = .ok (.iload_n 1, 1) := by decide +kernel
theorem dX2_has_5 : decode cX2_has 5 = .ok (.bipush 8, 2) := by decide +kernel
theorem dX2_has_7 : decode cX2_has 7 = .ok (.if_icmp .ge 16, 3) := by decide +kernel
theorem dX2_has_10 : decode cX2_has 10 = .ok (.aload_n 0, 1) := by decide +kernel
theorem dX2_has_11 : decode cX2_has 11 = .ok (.getfield 9, 3) := by decide +kernel
theorem dX2_has_14 : decode cX2_has 14 = .ok (.iload_n 1, 1) := by decide +kernel
theorem dX2_has_15 : decode cX2_has 15 = .ok (.baload, 1) := by decide +kernel
theorem dX2_has_16 : decode cX2_has 16 = .ok (.ifCond .eq 7, 3) := by decide +kernel
theorem dX2_has_19 : decode cX2_has 19 = .ok (.iconst 1, 1) := by decide +kernel
theorem dX2_has_20 : decode cX2_has 20 = .ok (.goto 4, 3) := by decide +kernel
theorem dX2_has_23 : decode cX2_has 23 = .ok (.iconst 0, 1) := by decide +kernel
theorem dX2_has_24 : decode cX2_has 24 = .ok (.ireturn, 1) := by decide +kernel
theorem dX2_leastFree_0 : decode cX2_leastFree 0 = .ok (.iconst 0, 1) := by decide +kernel
theorem dX2_leastFree_1 : decode cX2_leastFree 1 = .ok (.istore_n 1, 1) := by decide +kernel
theorem dX2_leastFree_2 : decode cX2_leastFree 2 = .ok (.iload_n 1, 1) := by decide +kernel
theorem dX2_leastFree_3 : decode cX2_leastFree 3 = .ok (.bipush 8, 2) := by decide +kernel
theorem dX2_leastFree_5 : decode cX2_leastFree 5 = .ok (.if_icmp .ge 20, 3) := by decide +kernel
theorem dX2_leastFree_8 : decode cX2_leastFree 8 = .ok (.aload_n 0, 1) := by decide +kernel
theorem dX2_leastFree_9 : decode cX2_leastFree 9 = .ok (.getfield 9, 3) := by decide +kernel
theorem dX2_leastFree_12 : decode cX2_leastFree 12 = .ok (.iload_n 1, 1) := by decide +kernel
theorem dX2_leastFree_13 : decode cX2_leastFree 13 = .ok (.baload, 1) := by decide +kernel
theorem dX2_leastFree_14 : decode cX2_leastFree 14 = .ok (.ifCond .ne 5, 3) := by decide +kernel
theorem dX2_leastFree_17 : decode cX2_leastFree 17 = .ok (.iload_n 1, 1) := by decide +kernel
theorem dX2_leastFree_18 : decode cX2_leastFree 18 = .ok (.ireturn, 1) := by decide +kernel
theorem dX2_leastFree_19 : decode cX2_leastFree 19 = .ok (.iinc 1 1, 3) := by decide +kernel
theorem dX2_leastFree_22 : decode cX2_leastFree 22 = .ok (.goto (-20), 3) := by decide +kernel
theorem dX2_leastFree_25 : decode cX2_leastFree 25 = .ok (.iconst (-1), 1) := by decide +kernel
theorem dX2_leastFree_26 : decode cX2_leastFree 26 = .ok (.ireturn, 1) := by decide +kernel
theorem dX2_start_0 : decode cX2_start 0 = .ok (.aload_n 0, 1) := by decide +kernel
theorem dX2_start_1 : decode cX2_start 1 = .ok (.getfield 9, 3) := by decide +kernel
theorem dX2_start_4 : decode cX2_start 4 = .ok (.iload_n 1, 1) := by decide +kernel
theorem dX2_start_5 : decode cX2_start 5 = .ok (.iconst 1, 1) := by decide +kernel
theorem dX2_start_6 : decode cX2_start 6 = .ok (.bastore, 1) := by decide +kernel
theorem dX2_start_7 : decode cX2_start 7 = .ok (.aload_n 0, 1) := by decide +kernel
theorem dX2_start_8 : decode cX2_start 8 = .ok (.getfield 15, 3) := by decide +kernel
theorem dX2_start_11 : decode cX2_start 11 = .ok (.iload_n 1, 1) := by decide +kernel
theorem dX2_start_12 : decode cX2_start 12 = .ok (.iconst 0, 1) := by decide +kernel
theorem dX2_start_13 : decode cX2_start 13 = .ok (.bastore, 1) := by decide +kernel
theorem dX2_start_14 : decode cX2_start 14 = .ok (.aload_n 0, 1) := by decide +kernel
theorem dX2_start_15 : decode cX2_start 15 = .ok (.getfield 18, 3) := by decide +kernel
theorem dX2_start_18 : decode cX2_start 18 = .ok (.iload_n 1, 1) := by decide +kernel
theorem dX2_start_19 : decode cX2_start 19 = .ok (.iload_n 3, 1) := by decide +kernel
theorem dX2_start_20 : decode cX2_start 20 = .ok (.bastore, 1) := by decide +kernel
theorem dX2_start_21 : decode cX2_start 21 = .ok (.aload_n 0, 1) := by decide +kernel
theorem dX2_start_22 : decode cX2_start 22 = .ok (.getfield 21, 3) := by decide +kernel
theorem dX2_start_25 : decode cX2_start 25 = .ok (.iload_n 1, 1) := by decide +kernel
theorem dX2_start_26 : decode cX2_start 26 = .ok (.iload_n 2, 1) := by decide +kernel
theorem dX2_start_27 : decode cX2_start 27 = .ok (.iastore, 1) := by decide +kernel
theorem dX2_start_28 : decode cX2_start 28 = .ok (.aload_n 0, 1) := by decide +kernel
theorem dX2_start_29 : decode cX2_start 29 = .ok (.getfield 25, 3) := by decide +kernel
theorem dX2_start_32 : decode cX2_start 32 = .ok (.iload_n 1, 1) := by decide +kernel
theorem dX2_start_33 : decode cX2_start 33 = .ok (.iconst (-1), 1) := by decide +kernel
theorem dX2_start_34 : decode cX2_start 34 = .ok (.iastore, 1) := by decide +kernel
theorem dX2_start_35 : decode cX2_start 35 = .ok (.aload_n 0, 1) := by decide +kernel
theorem dX2_start_36 : decode cX2_start 36 = .ok (.getfield 28, 3) := by decide +kernel
theorem dX2_start_39 : decode cX2_start 39 = .ok (.iload_n 1, 1) := by decide +kernel
theorem dX2_start_40 : decode cX2_start 40 = .ok (.iconst 0, 1) := by decide +kernel
theorem dX2_start_41 : decode cX2_start 41 = .ok (.iastore, 1) := by decide +kernel
theorem dX2_start_42 : decode cX2_start 42 = .ok (.return_, 1) := by decide +kernel
theorem dX2_moveTo_0 : decode cX2_moveTo 0 = .ok (.aload_n 0, 1) := by decide +kernel
theorem dX2_moveTo_1 : decode cX2_moveTo 1 = .ok (.getfield 25, 3) := by decide +kernel
theorem dX2_moveTo_4 : decode cX2_moveTo 4 = .ok (.iload_n 1, 1) := by decide +kernel
theorem dX2_moveTo_5 : decode cX2_moveTo 5 = .ok (.iload_n 2, 1) := by decide +kernel
theorem dX2_moveTo_6 : decode cX2_moveTo 6 = .ok (.iastore, 1) := by decide +kernel
theorem dX2_moveTo_7 : decode cX2_moveTo 7 = .ok (.aload_n 0, 1) := by decide +kernel
theorem dX2_moveTo_8 : decode cX2_moveTo 8 = .ok (.getfield 28, 3) := by decide +kernel
theorem dX2_moveTo_11 : decode cX2_moveTo 11 = .ok (.iload_n 1, 1) := by decide +kernel
theorem dX2_moveTo_12 : decode cX2_moveTo 12 = .ok (.dup2, 1) := by decide +kernel
theorem dX2_moveTo_13 : decode cX2_moveTo 13 = .ok (.iaload, 1) := by decide +kernel
theorem dX2_moveTo_14 : decode cX2_moveTo 14 = .ok (.iconst 1, 1) := by decide +kernel
theorem dX2_moveTo_15 : decode cX2_moveTo 15 = .ok (.iadd, 1) := by decide +kernel
theorem dX2_moveTo_16 : decode cX2_moveTo 16 = .ok (.iastore, 1) := by decide +kernel
theorem dX2_moveTo_17 : decode cX2_moveTo 17 = .ok (.return_, 1) := by decide +kernel
theorem dX2_makeStale_0 : decode cX2_makeStale 0 = .ok (.iconst 0, 1) := by decide +kernel
theorem dX2_makeStale_1 : decode cX2_makeStale 1 = .ok (.istore_n 1, 1) := by decide +kernel
theorem dX2_makeStale_2 : decode cX2_makeStale 2 = .ok (.iload_n 1, 1) := by decide +kernel
theorem dX2_makeStale_3 : decode cX2_makeStale 3 = .ok (.bipush 8, 2) := by decide +kernel
theorem dX2_makeStale_5 : decode cX2_makeStale 5 = .ok (.if_icmp .ge 16, 3) := by decide +kernel
theorem dX2_makeStale_8 : decode cX2_makeStale 8 = .ok (.aload_n 0, 1) := by decide +kernel
theorem dX2_makeStale_9 : decode cX2_makeStale 9 = .ok (.getfield 15, 3) := by decide +kernel
theorem dX2_makeStale_12 : decode cX2_makeStale 12 = .ok (.iload_n 1, 1) := by decide +kernel
theorem dX2_makeStale_13 : decode cX2_makeStale 13 = .ok (.iconst 1, 1) := by decide +kernel
theorem dX2_makeStale_14 : decode cX2_makeStale 14 = .ok (.bastore, 1) := by decide +kernel
theorem dX2_makeStale_15 : decode cX2_makeStale 15 = .ok (.iinc 1 1, 3) := by decide +kernel
theorem dX2_makeStale_18 : decode cX2_makeStale 18 = .ok (.goto (-16), 3) := by decide +kernel
theorem dX2_makeStale_21 : decode cX2_makeStale 21 = .ok (.return_, 1) := by decide +kernel
theorem dX2_countOpen_0 : decode cX2_countOpen 0 = .ok (.iconst 0, 1) := by decide +kernel
theorem dX2_countOpen_1 : decode cX2_countOpen 1 = .ok (.istore_n 1, 1) := by decide +kernel
theorem dX2_countOpen_2 : decode cX2_countOpen 2 = .ok (.iconst 0, 1) := by decide +kernel
theorem dX2_countOpen_3 : decode cX2_countOpen 3 = .ok (.istore_n 2, 1) := by decide +kernel
theorem dX2_countOpen_4 : decode cX2_countOpen 4 = .ok (.iload_n 2, 1) := by decide +kernel
theorem dX2_countOpen_5 : decode cX2_countOpen 5 = .ok (.bipush 8, 2) := by decide +kernel
theorem dX2_countOpen_7 : decode cX2_countOpen 7 = .ok (.if_icmp .ge 21, 3) := by decide +kernel
theorem dX2_countOpen_10 : decode cX2_countOpen 10 = .ok (.aload_n 0, 1) := by decide +kernel
theorem dX2_countOpen_11 : decode cX2_countOpen 11 = .ok (.getfield 9, 3) := by decide +kernel
theorem dX2_countOpen_14 : decode cX2_countOpen 14 = .ok (.iload_n 2, 1) := by decide +kernel
theorem dX2_countOpen_15 : decode cX2_countOpen 15 = .ok (.baload, 1) := by decide +kernel
theorem dX2_countOpen_16 : decode cX2_countOpen 16 = .ok (.ifCond .eq 6, 3) := by decide +kernel
theorem dX2_countOpen_19 : decode cX2_countOpen 19 = .ok (.iinc 1 1, 3) := by decide +kernel
theorem dX2_countOpen_22 : decode cX2_countOpen 22 = .ok (.iinc 2 1, 3) := by decide +kernel
theorem dX2_countOpen_25 : decode cX2_countOpen 25 = .ok (.goto (-21), 3) := by decide +kernel
theorem dX2_countOpen_28 : decode cX2_countOpen 28 = .ok (.iload_n 1, 1) := by decide +kernel
theorem dX2_countOpen_29 : decode cX2_countOpen 29 = .ok (.ireturn, 1) := by decide +kernel
theorem dX3_init_0 : decode cX3_init 0 = .ok (.aload_n 0, 1) := by decide +kernel
theorem dX3_init_1 : decode cX3_init 1 = .ok (.invokespecial 3, 3) := by decide +kernel
theorem dX3_init_4 : decode cX3_init 4 = .ok (.aload_n 0, 1) := by decide +kernel
theorem dX3_init_5 : decode cX3_init 5 = .ok (.sipush 160, 3) := by decide +kernel
theorem dX3_init_8 : decode cX3_init 8 = .ok (.newarray .int, 2) := by decide +kernel
theorem dX3_init_10 : decode cX3_init 10 = .ok (.putfield 9, 3) := by decide +kernel
theorem dX3_init_13 : decode cX3_init 13 = .ok (.aload_n 0, 1) := by decide +kernel
theorem dX3_init_14 : decode cX3_init 14 = .ok (.sipush 160, 3) := by decide +kernel
theorem dX3_init_17 : decode cX3_init 17 = .ok (.newarray .int, 2) := by decide +kernel
theorem dX3_init_19 : decode cX3_init 19 = .ok (.putfield 15, 3) := by decide +kernel
theorem dX3_init_22 : decode cX3_init 22 = .ok (.aload_n 0, 1) := by decide +kernel
theorem dX3_init_23 : decode cX3_init 23 = .ok (.sipush 160, 3) := by decide +kernel
theorem dX3_init_26 : decode cX3_init 26 = .ok (.newarray .int, 2) := by decide +kernel
theorem dX3_init_28 : decode cX3_init 28 = .ok (.putfield 18, 3) := by decide +kernel
theorem dX3_init_31 : decode cX3_init 31 = .ok (.aload_n 0, 1) := by decide +kernel
theorem dX3_init_32 : decode cX3_init 32 = .ok (.aload_n 2, 1) := by decide +kernel
theorem dX3_init_33 : decode cX3_init 33 = .ok (.putfield 21, 3) := by decide +kernel
theorem dX3_init_36 : decode cX3_init 36 = .ok (.aload_n 0, 1) := by decide +kernel
theorem dX3_init_37 : decode cX3_init 37 = .ok (.aload_n 3, 1) := by decide +kernel
theorem dX3_init_38 : decode cX3_init 38 = .ok (.putfield 25, 3) := by decide +kernel
theorem dX3_init_41 : decode cX3_init 41 = .ok (.aload_n 0, 1) := by decide +kernel
theorem dX3_init_42 : decode cX3_init 42 = .ok (.aload 4, 2) := by decide +kernel
theorem dX3_init_44 : decode cX3_init 44 = .ok (.putfield 28, 3) := by decide +kernel
theorem dX3_init_47 : decode cX3_init 47 = .ok (.aload_n 0, 1) := by decide +kernel
theorem dX3_init_48 : decode cX3_init 48 = .ok (.iload_n 1, 1) := by decide +kernel
theorem dX3_init_49 : decode cX3_init 49 = .ok (.iconst 1, 1) := by decide +kernel
theorem dX3_init_50 : decode cX3_init 50 = .ok (.iadd, 1) := by decide +kernel
theorem dX3_init_51 : decode cX3_init 51 = .ok (.newarray .int, 2) := by decide +kernel
theorem dX3_init_53 : decode cX3_init 53 = .ok (.putfield 31, 3) := by decide +kernel
theorem dX3_init_56 : decode cX3_init 56 = .ok (.aload_n 0, 1) := by decide +kernel
theorem dX3_init_57 : decode cX3_init 57 = .ok (.iload_n 1, 1) := by decide +kernel
theorem dX3_init_58 : decode cX3_init 58 = .ok (.iconst 1, 1) := by decide +kernel
theorem dX3_init_59 : decode cX3_init 59 = .ok (.iadd, 1) := by decide +kernel
theorem dX3_init_60 : decode cX3_init 60 = .ok (.newarray .int, 2) := by decide +kernel
theorem dX3_init_62 : decode cX3_init 62 = .ok (.putfield 34, 3) := by decide +kernel
theorem dX3_init_65 : decode cX3_init 65 = .ok (.return_, 1) := by decide +kernel
set_option maxRecDepth 20000 in
theorem ggX3_build_X3_listBuilt : GoodIn wsX3_build wsX3_listBuilt := goodIn_r _ [10, 11, 12, 13, 1, 28, 29, 30, 31, 32, 33, 34, 35, 36, 37, 38, 39, 40] (by decide +kernel) (by decide +kernel)
set_option maxRecDepth 20000 in
theorem gX3_build_X3_listBuilt : GoodIn wsX3_build (wsV RX3 37 RX3 yX3_listBuilt wsX3_listBuilt) := goodIn_app (goodIn_of _ (by decide +kernel)) ggX3_build_X3_listBuilt
set_option maxRecDepth 20000 in
theorem ggX3_build_X3_sortByCounting : GoodIn wsX3_build wsX3_sortByCounting := goodIn_r _ [17, 18, 19, 20, 21, 22, 23, 24, 25, 26, 27, 28, 29, 30, 31, 32, 33, 34, 35] (by decide +kernel) (by decide +kernel)
set_option maxRecDepth 20000 in
theorem gX3_build_X3_sortByCounting : GoodIn wsX3_build (wsV RX3 41 RX3 yX3_sortByCounting wsX3_sortByCounting) := goodIn_app (goodIn_of _ (by decide +kernel)) ggX3_build_X3_sortByCounting
theorem dX3_build_0 : decode cX3_build 0 = .ok (.aload_n 0, 1) := by decide +kernel
theorem dX3_build_1 : decode cX3_build 1 = .ok (.invokevirtual 37, 3) := by decide +kernel
theorem dX3_build_4 : decode cX3_build 4 = .ok (.istore_n 1, 1) := by decide +kernel
theorem dX3_build_5 : decode cX3_build 5 = .ok (.aload_n 0, 1) := by decide +kernel
theorem dX3_build_6 : decode cX3_build 6 = .ok (.aload_n 0, 1) := by decide +kernel
theorem dX3_build_7 : decode cX3_build 7 = .ok (.getfield 15, 3) := by decide +kernel
theorem dX3_build_10 : decode cX3_build 10 = .ok (.iload_n 1, 1) := by decide +kernel
theorem dX3_build_11 : decode cX3_build 11 = .ok (.aload_n 0, 1) := by decide +kernel
theorem dX3_build_12 : decode cX3_build 12 = .ok (.getfield 28, 3) := by decide +kernel
theorem dX3_build_15 : decode cX3_build 15 = .ok (.aload_n 0, 1) := by decide +kernel
theorem dX3_build_16 : decode cX3_build 16 = .ok (.getfield 18, 3) := by decide +kernel
theorem dX3_build_19 : decode cX3_build 19 = .ok (.invokevirtual 41, 3) := by decide +kernel
theorem dX3_build_22 : decode cX3_build 22 = .ok (.aload_n 0, 1) := by decide +kernel
theorem dX3_build_23 : decode cX3_build 23 = .ok (.aload_n 0, 1) := by decide +kernel
theorem dX3_build_24 : decode cX3_build 24 = .ok (.getfield 18, 3) := by decide +kernel
theorem dX3_build_27 : decode cX3_build 27 = .ok (.iload_n 1, 1) := by decide +kernel
theorem dX3_build_28 : decode cX3_build 28 = .ok (.aload_n 0, 1) := by decide +kernel
theorem dX3_build_29 : decode cX3_build 29 = .ok (.getfield 25, 3) := by decide +kernel
theorem dX3_build_32 : decode cX3_build 32 = .ok (.aload_n 0, 1) := by decide +kernel
theorem dX3_build_33 : decode cX3_build 33 = .ok (.getfield 9, 3) := by decide +kernel
theorem dX3_build_36 : decode cX3_build 36 = .ok (.invokevirtual 41, 3) := by decide +kernel
theorem dX3_build_39 : decode cX3_build 39 = .ok (.return_, 1) := by decide +kernel
theorem dX3_listBuilt_0 : decode cX3_listBuilt 0 = .ok (.iconst 0, 1) := by decide +kernel
theorem dX3_listBuilt_1 : decode cX3_listBuilt 1 = .ok (.istore_n 1, 1) := by decide +kernel
theorem dX3_listBuilt_2 : decode cX3_listBuilt 2 = .ok (.iconst 0, 1) := by decide +kernel
theorem dX3_listBuilt_3 : decode cX3_listBuilt 3 = .ok (.istore_n 2, 1) := by decide +kernel
theorem dX3_listBuilt_4 : decode cX3_listBuilt 4 = .ok (.iload_n 2, 1) := by decide +kernel
theorem dX3_listBuilt_5 : decode cX3_listBuilt 5 = .ok (.aload_n 0, 1) := by decide +kernel
theorem dX3_listBuilt_6 : decode cX3_listBuilt 6 = .ok (.getfield 21, 3) := by decide +kernel
theorem dX3_listBuilt_9 : decode cX3_listBuilt 9 = .ok (.getfield 45, 3) := by decide +kernel
theorem dX3_listBuilt_12 : decode cX3_listBuilt 12 = .ok (.if_icmp .ge 32, 3) := by decide +kernel
theorem dX3_listBuilt_15 : decode cX3_listBuilt 15 = .ok (.aload_n 0, 1) := by decide +kernel
theorem dX3_listBuilt_16 : decode cX3_listBuilt 16 = .ok (.getfield 21, 3) := by decide +kernel
theorem dX3_listBuilt_19 : decode cX3_listBuilt 19 = .ok (.getfield 51, 3) := by decide +kernel
theorem dX3_listBuilt_22 : decode cX3_listBuilt 22 = .ok (.iload_n 2, 1) := by decide +kernel
theorem dX3_listBuilt_23 : decode cX3_listBuilt 23 = .ok (.iaload, 1) := by decide +kernel
theorem dX3_listBuilt_24 : decode cX3_listBuilt 24 = .ok (.iconst 1, 1) := by decide +kernel
theorem dX3_listBuilt_25 : decode cX3_listBuilt 25 = .ok (.if_icmp .ne 13, 3) := by decide +kernel
theorem dX3_listBuilt_28 : decode cX3_listBuilt 28 = .ok (.aload_n 0, 1) := by decide +kernel
theorem dX3_listBuilt_29 : decode cX3_listBuilt 29 = .ok (.getfield 15, 3) := by decide +kernel
theorem dX3_listBuilt_32 : decode cX3_listBuilt 32 = .ok (.iload_n 1, 1) := by decide +kernel
theorem dX3_listBuilt_33 : decode cX3_listBuilt 33 = .ok (.iload_n 2, 1) := by decide +kernel
theorem dX3_listBuilt_34 : decode cX3_listBuilt 34 = .ok (.iastore, 1) := by decide +kernel
theorem dX3_listBuilt_35 : decode cX3_listBuilt 35 = .ok (.iinc 1 1, 3) := by decide +kernel
theorem dX3_listBuilt_38 : decode cX3_listBuilt 38 = .ok (.iinc 2 1, 3) := by decide +kernel
theorem dX3_listBuilt_41 : decode cX3_listBuilt 41 = .ok (.goto (-37), 3) := by decide +kernel
theorem dX3_listBuilt_44 : decode cX3_listBuilt 44 = .ok (.iload_n 1, 1) := by decide +kernel
theorem dX3_listBuilt_45 : decode cX3_listBuilt 45 = .ok (.ireturn, 1) := by decide +kernel
set_option maxRecDepth 20000 in
theorem ggX3_sortByCounting_J7_fill_53178 : GoodIn wsX3_sortByCounting wsJ7_fill_53178 := goodIn_r _ [10] (by decide +kernel) (by decide +kernel)
set_option maxRecDepth 20000 in
theorem gX3_sortByCounting_J7_fill_53178 : GoodIn wsX3_sortByCounting (va_wsS RX3 54 yJ7_fill_53178 wsJ7_fill_53178) := goodIn_app (goodIn_of _ (by decide +kernel)) ggX3_sortByCounting_J7_fill_53178
theorem dX3_sortByCounting_0 : decode cX3_sortByCounting 0 = .ok (.aload_n 0, 1) := by decide +kernel
theorem dX3_sortByCounting_1 : decode cX3_sortByCounting 1 = .ok (.getfield 31, 3) := by decide +kernel
theorem dX3_sortByCounting_4 : decode cX3_sortByCounting 4 = .ok (.iconst 0, 1) := by decide +kernel
theorem dX3_sortByCounting_5 : decode cX3_sortByCounting 5 = .ok (.invokestatic 54, 3) := by decide +kernel
theorem dX3_sortByCounting_8 : decode cX3_sortByCounting 8 = .ok (.iconst 0, 1) := by decide +kernel
theorem dX3_sortByCounting_9 : decode cX3_sortByCounting 9 = .ok (.istore 5, 2) := by decide +kernel
theorem dX3_sortByCounting_11 : decode cX3_sortByCounting 11 = .ok (.iload 5, 2) := by decide +kernel
theorem dX3_sortByCounting_13 : decode cX3_sortByCounting 13 = .ok (.iload_n 2, 1) := by decide +kernel
theorem dX3_sortByCounting_14 : decode cX3_sortByCounting 14 = .ok (.if_icmp .ge 26, 3) := by decide +kernel
theorem dX3_sortByCounting_17 : decode cX3_sortByCounting 17 = .ok (.aload_n 0, 1) := by decide +kernel
theorem dX3_sortByCounting_18 : decode cX3_sortByCounting 18 = .ok (.getfield 31, 3) := by decide +kernel
theorem dX3_sortByCounting_21 : decode cX3_sortByCounting 21 = .ok (.aload_n 3, 1) := by decide +kernel
theorem dX3_sortByCounting_22 : decode cX3_sortByCounting 22 = .ok (.aload_n 1, 1) := by decide +kernel
theorem dX3_sortByCounting_23 : decode cX3_sortByCounting 23 = .ok (.iload 5, 2) := by decide +kernel
theorem dX3_sortByCounting_25 : decode cX3_sortByCounting 25 = .ok (.iaload, 1) := by decide +kernel
theorem dX3_sortByCounting_26 : decode cX3_sortByCounting 26 = .ok (.iaload, 1) := by decide +kernel
theorem dX3_sortByCounting_27 : decode cX3_sortByCounting 27 = .ok (.iconst 1, 1) := by decide +kernel
theorem dX3_sortByCounting_28 : decode cX3_sortByCounting 28 = .ok (.iadd, 1) := by decide +kernel
theorem dX3_sortByCounting_29 : decode cX3_sortByCounting 29 = .ok (.dup2, 1) := by decide +kernel
theorem dX3_sortByCounting_30 : decode cX3_sortByCounting 30 = .ok (.iaload, 1) := by decide +kernel
theorem dX3_sortByCounting_31 : decode cX3_sortByCounting 31 = .ok (.iconst 1, 1) := by decide +kernel
theorem dX3_sortByCounting_32 : decode cX3_sortByCounting 32 = .ok (.iadd, 1) := by decide +kernel
theorem dX3_sortByCounting_33 : decode cX3_sortByCounting 33 = .ok (.iastore, 1) := by decide +kernel
theorem dX3_sortByCounting_34 : decode cX3_sortByCounting 34 = .ok (.iinc 5 1, 3) := by decide +kernel
theorem dX3_sortByCounting_37 : decode cX3_sortByCounting 37 = .ok (.goto (-26), 3) := by decide +kernel
theorem dX3_sortByCounting_40 : decode cX3_sortByCounting 40 = .ok (.iconst 1, 1) := by decide +kernel
theorem dX3_sortByCounting_41 : decode cX3_sortByCounting 41 = .ok (.istore 5, 2) := by decide +kernel
theorem dX3_sortByCounting_43 : decode cX3_sortByCounting 43 = .ok (.iload 5, 2) := by decide +kernel
theorem dX3_sortByCounting_45 : decode cX3_sortByCounting 45 = .ok (.aload_n 0, 1) := by decide +kernel
theorem dX3_sortByCounting_46 : decode cX3_sortByCounting 46 = .ok (.getfield 31, 3) := by decide +kernel
theorem dX3_sortByCounting_49 : decode cX3_sortByCounting 49 = .ok (.arraylength, 1) := by decide +kernel
theorem dX3_sortByCounting_50 : decode cX3_sortByCounting 50 = .ok (.if_icmp .ge 28, 3) := by decide +kernel
theorem dX3_sortByCounting_53 : decode cX3_sortByCounting 53 = .ok (.aload_n 0, 1) := by decide +kernel
theorem dX3_sortByCounting_54 : decode cX3_sortByCounting 54 = .ok (.getfield 31, 3) := by decide +kernel
theorem dX3_sortByCounting_57 : decode cX3_sortByCounting 57 = .ok (.iload 5, 2) := by decide +kernel
theorem dX3_sortByCounting_59 : decode cX3_sortByCounting 59 = .ok (.dup2, 1) := by decide +kernel
theorem dX3_sortByCounting_60 : decode cX3_sortByCounting 60 = .ok (.iaload, 1) := by decide +kernel
theorem dX3_sortByCounting_61 : decode cX3_sortByCounting 61 = .ok (.aload_n 0, 1) := by decide +kernel
theorem dX3_sortByCounting_62 : decode cX3_sortByCounting 62 = .ok (.getfield 31, 3) := by decide +kernel
theorem dX3_sortByCounting_65 : decode cX3_sortByCounting 65 = .ok (.iload 5, 2) := by decide +kernel
theorem dX3_sortByCounting_67 : decode cX3_sortByCounting 67 = .ok (.iconst 1, 1) := by decide +kernel
theorem dX3_sortByCounting_68 : decode cX3_sortByCounting 68 = .ok (.isub, 1) := by decide +kernel
theorem dX3_sortByCounting_69 : decode cX3_sortByCounting 69 = .ok (.iaload, 1) := by decide +kernel
theorem dX3_sortByCounting_70 : decode cX3_sortByCounting 70 = .ok (.iadd, 1) := by decide +kernel
theorem dX3_sortByCounting_71 : decode cX3_sortByCounting 71 = .ok (.iastore, 1) := by decide +kernel
theorem dX3_sortByCounting_72 : decode cX3_sortByCounting 72 = .ok (.iinc 5 1, 3) := by decide +kernel
theorem dX3_sortByCounting_75 : decode cX3_sortByCounting 75 = .ok (.goto (-32), 3) := by decide +kernel
theorem dX3_sortByCounting_78 : decode cX3_sortByCounting 78 = .ok (.aload_n 0, 1) := by decide +kernel
theorem dX3_sortByCounting_79 : decode cX3_sortByCounting 79 = .ok (.getfield 31, 3) := by decide +kernel
theorem dX3_sortByCounting_82 : decode cX3_sortByCounting 82 = .ok (.iconst 0, 1) := by decide +kernel
theorem dX3_sortByCounting_83 : decode cX3_sortByCounting 83 = .ok (.aload_n 0, 1) := by decide +kernel
theorem dX3_sortByCounting_84 : decode cX3_sortByCounting 84 = .ok (.getfield 34, 3) := by decide +kernel
theorem dX3_sortByCounting_87 : decode cX3_sortByCounting 87 = .ok (.iconst 0, 1) := by decide +kernel
theorem dX3_sortByCounting_88 : decode cX3_sortByCounting 88 = .ok (.aload_n 0, 1) := by decide +kernel
theorem dX3_sortByCounting_89 : decode cX3_sortByCounting 89 = .ok (.getfield 31, 3) := by decide +kernel
theorem dX3_sortByCounting_92 : decode cX3_sortByCounting 92 = .ok (.arraylength, 1) := by decide +kernel
theorem dX3_sortByCounting_93 : decode cX3_sortByCounting 93 = .ok (.invokestatic 60, 3) := by decide +kernel
theorem dX3_sortByCounting_96 : decode cX3_sortByCounting 96 = .ok (.iconst 0, 1) := by decide +kernel
theorem dX3_sortByCounting_97 : decode cX3_sortByCounting 97 = .ok (.istore 5, 2) := by decide +kernel
theorem dX3_sortByCounting_99 : decode cX3_sortByCounting 99 = .ok (.iload 5, 2) := by decide +kernel
theorem dX3_sortByCounting_101 : decode cX3_sortByCounting 101 = .ok (.iload_n 2, 1) := by decide +kernel
theorem dX3_sortByCounting_102 : decode cX3_sortByCounting 102 = .ok (.if_icmp .ge 42, 3) := by decide +kernel
theorem dX3_sortByCounting_105 : decode cX3_sortByCounting 105 = .ok (.aload_n 3, 1) := by decide +kernel
theorem dX3_sortByCounting_106 : decode cX3_sortByCounting 106 = .ok (.aload_n 1, 1) := by decide +kernel
theorem dX3_sortByCounting_107 : decode cX3_sortByCounting 107 = .ok (.iload 5, 2) := by decide +kernel
theorem dX3_sortByCounting_109 : decode cX3_sortByCounting 109 = .ok (.iaload, 1) := by decide +kernel
theorem dX3_sortByCounting_110 : decode cX3_sortByCounting 110 = .ok (.iaload, 1) := by decide +kernel
theorem dX3_sortByCounting_111 : decode cX3_sortByCounting 111 = .ok (.istore 6, 2) := by decide +kernel
theorem dX3_sortByCounting_113 : decode cX3_sortByCounting 113 = .ok (.aload 4, 2) := by decide +kernel
theorem dX3_sortByCounting_115 : decode cX3_sortByCounting 115 = .ok (.aload_n 0, 1) := by decide +kernel
theorem dX3_sortByCounting_116 : decode cX3_sortByCounting 116 = .ok (.getfield 34, 3) := by decide +kernel
theorem dX3_sortByCounting_119 : decode cX3_sortByCounting 119 = .ok (.iload 6, 2) := by decide +kernel
theorem dX3_sortByCounting_121 : decode cX3_sortByCounting 121 = .ok (.iaload, 1) := by decide +kernel
theorem dX3_sortByCounting_122 : decode cX3_sortByCounting 122 = .ok (.aload_n 1, 1) := by decide +kernel
theorem dX3_sortByCounting_123 : decode cX3_sortByCounting 123 = .ok (.iload 5, 2) := by decide +kernel
theorem dX3_sortByCounting_125 : decode cX3_sortByCounting 125 = .ok (.iaload, 1) := by decide +kernel
theorem dX3_sortByCounting_126 : decode cX3_sortByCounting 126 = .ok (.iastore, 1) := by decide +kernel
theorem dX3_sortByCounting_127 : decode cX3_sortByCounting 127 = .ok (.aload_n 0, 1) := by decide +kernel
theorem dX3_sortByCounting_128 : decode cX3_sortByCounting 128 = .ok (.getfield 34, 3) := by decide +kernel
theorem dX3_sortByCounting_131 : decode cX3_sortByCounting 131 = .ok (.iload 6, 2) := by decide +kernel
theorem dX3_sortByCounting_133 : decode cX3_sortByCounting 133 = .ok (.dup2, 1) := by decide +kernel
theorem dX3_sortByCounting_134 : decode cX3_sortByCounting 134 = .ok (.iaload, 1) := by decide +kernel
theorem dX3_sortByCounting_135 : decode cX3_sortByCounting 135 = .ok (.iconst 1, 1) := by decide +kernel
theorem dX3_sortByCounting_136 : decode cX3_sortByCounting 136 = .ok (.iadd, 1) := by decide +kernel
theorem dX3_sortByCounting_137 : decode cX3_sortByCounting 137 = .ok (.iastore, 1) := by decide +kernel
theorem dX3_sortByCounting_138 : decode cX3_sortByCounting 138 = .ok (.iinc 5 1, 3) := by decide +kernel
theorem dX3_sortByCounting_141 : decode cX3_sortByCounting 141 = .ok (.goto (-42), 3) := by decide +kernel
theorem dX3_sortByCounting_144 : decode cX3_sortByCounting 144 = .ok (.return_, 1) := by decide +kernel
theorem dX3_rowLength_0 : decode cX3_rowLength 0 = .ok (.aload_n 0, 1) := by decide +kernel
theorem dX3_rowLength_1 : decode cX3_rowLength 1 = .ok (.getfield 31, 3) := by decide +kernel
theorem dX3_rowLength_4 : decode cX3_rowLength 4 = .ok (.iload_n 1, 1) := by decide +kernel
theorem dX3_rowLength_5 : decode cX3_rowLength 5 = .ok (.iconst 1, 1) := by decide +kernel
theorem dX3_rowLength_6 : decode cX3_rowLength 6 = .ok (.iadd, 1) := by decide +kernel
theorem dX3_rowLength_7 : decode cX3_rowLength 7 = .ok (.iaload, 1) := by decide +kernel
theorem dX3_rowLength_8 : decode cX3_rowLength 8 = .ok (.aload_n 0, 1) := by decide +kernel
theorem dX3_rowLength_9 : decode cX3_rowLength 9 = .ok (.getfield 31, 3) := by decide +kernel
theorem dX3_rowLength_12 : decode cX3_rowLength 12 = .ok (.iload_n 1, 1) := by decide +kernel
theorem dX3_rowLength_13 : decode cX3_rowLength 13 = .ok (.iaload, 1) := by decide +kernel
theorem dX3_rowLength_14 : decode cX3_rowLength 14 = .ok (.isub, 1) := by decide +kernel
theorem dX3_rowLength_15 : decode cX3_rowLength 15 = .ok (.ireturn, 1) := by decide +kernel
set_option maxRecDepth 20000 in
theorem ggX3_countPlaces_X3_rowLength : GoodIn wsX3_countPlaces wsX3_rowLength := goodIn_r _ [7, 8, 9, 10, 11, 12, 13, 14, 15, 16] (by decide +kernel) (by decide +kernel)
set_option maxRecDepth 20000 in
theorem gX3_countPlaces_X3_rowLength : GoodIn wsX3_countPlaces (wsV RX3 66 RX3 yX3_rowLength wsX3_rowLength) := goodIn_app (goodIn_of _ (by decide +kernel)) ggX3_countPlaces_X3_rowLength
theorem dX3_countPlaces_0 : decode cX3_countPlaces 0 = .ok (.aload_n 0, 1) := by decide +kernel
theorem dX3_countPlaces_1 : decode cX3_countPlaces 1 = .ok (.iload_n 1, 1) := by decide +kernel
theorem dX3_countPlaces_2 : decode cX3_countPlaces 2 = .ok (.invokevirtual 66, 3) := by decide +kernel
theorem dX3_countPlaces_5 : decode cX3_countPlaces 5 = .ok (.aload_n 0, 1) := by decide +kernel
theorem dX3_countPlaces_6 : decode cX3_countPlaces 6 = .ok (.getfield 21, 3) := by decide +kernel
theorem dX3_countPlaces_9 : decode cX3_countPlaces 9 = .ok (.getfield 45, 3) := by decide +kernel
theorem dX3_countPlaces_12 : decode cX3_countPlaces 12 = .ok (.iadd, 1) := by decide +kernel
theorem dX3_countPlaces_13 : decode cX3_countPlaces 13 = .ok (.ireturn, 1) := by decide +kernel
set_option maxRecDepth 20000 in
theorem ggX3_arcAt_X3_rowLength : GoodIn wsX3_arcAt wsX3_rowLength := goodIn_r _ [9, 2, 21, 22, 23, 24, 25, 26, 27, 28] (by decide +kernel) (by decide +kernel)
set_option maxRecDepth 20000 in
theorem gX3_arcAt_X3_rowLength : GoodIn wsX3_arcAt (wsV RX3 66 RX3 yX3_rowLength wsX3_rowLength) := goodIn_app (goodIn_of _ (by decide +kernel)) ggX3_arcAt_X3_rowLength
set_option maxRecDepth 20000 in
theorem ggX3_arcAt_X0_isWaiting : GoodIn wsX3_arcAt wsX0_isWaiting := goodIn_r _ [14, 15, 16, 17, 18, 13, 19, 20, 29, 30, 31, 32, 33] (by decide +kernel) (by decide +kernel)
set_option maxRecDepth 20000 in
theorem gX3_arcAt_X0_isWaiting : GoodIn wsX3_arcAt (wsV RX3 70 RX0 yX0_isWaiting wsX0_isWaiting) := goodIn_app (goodIn_of _ (by decide +kernel)) ggX3_arcAt_X0_isWaiting
theorem dX3_arcAt_0 : decode cX3_arcAt 0 = .ok (.aload_n 0, 1) := by decide +kernel
theorem dX3_arcAt_1 : decode cX3_arcAt 1 = .ok (.iload_n 1, 1) := by decide +kernel
theorem dX3_arcAt_2 : decode cX3_arcAt 2 = .ok (.invokevirtual 66, 3) := by decide +kernel
theorem dX3_arcAt_5 : decode cX3_arcAt 5 = .ok (.istore_n 3, 1) := by decide +kernel
theorem dX3_arcAt_6 : decode cX3_arcAt 6 = .ok (.iload_n 2, 1) := by decide +kernel
theorem dX3_arcAt_7 : decode cX3_arcAt 7 = .ok (.iload_n 3, 1) := by decide +kernel
theorem dX3_arcAt_8 : decode cX3_arcAt 8 = .ok (.if_icmp .ge 17, 3) := by decide +kernel
theorem dX3_arcAt_11 : decode cX3_arcAt 11 = .ok (.aload_n 0, 1) := by decide +kernel
theorem dX3_arcAt_12 : decode cX3_arcAt 12 = .ok (.getfield 9, 3) := by decide +kernel
theorem dX3_arcAt_15 : decode cX3_arcAt 15 = .ok (.aload_n 0, 1) := by decide +kernel
theorem dX3_arcAt_16 : decode cX3_arcAt 16 = .ok (.getfield 31, 3) := by decide +kernel
theorem dX3_arcAt_19 : decode cX3_arcAt 19 = .ok (.iload_n 1, 1) := by decide +kernel
theorem dX3_arcAt_20 : decode cX3_arcAt 20 = .ok (.iaload, 1) := by decide +kernel
theorem dX3_arcAt_21 : decode cX3_arcAt 21 = .ok (.iload_n 2, 1) := by decide +kernel
theorem dX3_arcAt_22 : decode cX3_arcAt 22 = .ok (.iadd, 1) := by decide +kernel
theorem dX3_arcAt_23 : decode cX3_arcAt 23 = .ok (.iaload, 1) := by decide +kernel
theorem dX3_arcAt_24 : decode cX3_arcAt 24 = .ok (.ireturn, 1) := by decide +kernel
theorem dX3_arcAt_25 : decode cX3_arcAt 25 = .ok (.iload_n 2, 1) := by decide +kernel
theorem dX3_arcAt_26 : decode cX3_arcAt 26 = .ok (.iload_n 3, 1) := by decide +kernel
theorem dX3_arcAt_27 : decode cX3_arcAt 27 = .ok (.isub, 1) := by decide +kernel
theorem dX3_arcAt_28 : decode cX3_arcAt 28 = .ok (.istore 4, 2) := by decide +kernel
theorem dX3_arcAt_30 : decode cX3_arcAt 30 = .ok (.aload_n 0, 1) := by decide +kernel
theorem dX3_arcAt_31 : decode cX3_arcAt 31 = .ok (.getfield 21, 3) := by decide +kernel
theorem dX3_arcAt_34 : decode cX3_arcAt 34 = .ok (.iload 4, 2) := by decide +kernel
theorem dX3_arcAt_36 : decode cX3_arcAt 36 = .ok (.invokevirtual 70, 3) := by decide +kernel
theorem dX3_arcAt_39 : decode cX3_arcAt 39 = .ok (.ifCond .eq 19, 3) := by decide +kernel
theorem dX3_arcAt_42 : decode cX3_arcAt 42 = .ok (.aload_n 0, 1) := by decide +kernel
theorem dX3_arcAt_43 : decode cX3_arcAt 43 = .ok (.getfield 25, 3) := by decide +kernel
theorem dX3_arcAt_46 : decode cX3_arcAt 46 = .ok (.iload 4, 2) := by decide +kernel
theorem dX3_arcAt_48 : decode cX3_arcAt 48 = .ok (.iaload, 1) := by decide +kernel
theorem dX3_arcAt_49 : decode cX3_arcAt 49 = .ok (.iload_n 1, 1) := by decide +kernel
theorem dX3_arcAt_50 : decode cX3_arcAt 50 = .ok (.if_icmp .ne 8, 3) := by decide +kernel
theorem dX3_arcAt_53 : decode cX3_arcAt 53 = .ok (.iload 4, 2) := by decide +kernel
theorem dX3_arcAt_55 : decode cX3_arcAt 55 = .ok (.goto 4, 3) := by decide +kernel
theorem dX3_arcAt_58 : decode cX3_arcAt 58 = .ok (.iconst (-1), 1) := by decide +kernel
theorem dX3_arcAt_59 : decode cX3_arcAt 59 = .ok (.ireturn, 1) := by decide +kernel
set_option maxRecDepth 20000 in
theorem ggX3_livePlaceFrom_X3_countPlaces : GoodIn wsX3_livePlaceFrom wsX3_countPlaces := goodIn_r _ [6, 1, 7, 8, 9, 10, 5, 11, 12, 35, 36, 37, 38, 39, 40, 41, 42, 43, 44, 45, 46, 47] (by decide +kernel) (by decide +kernel)
set_option maxRecDepth 20000 in
theorem gX3_livePlaceFrom_X3_countPlaces : GoodIn wsX3_livePlaceFrom (wsV RX3 74 RX3 yX3_countPlaces wsX3_countPlaces) := goodIn_app (goodIn_of _ (by decide +kernel)) ggX3_livePlaceFrom_X3_countPlaces
set_option maxRecDepth 20000 in
theorem ggX3_livePlaceFrom_X3_arcAt : GoodIn wsX3_livePlaceFrom wsX3_arcAt := goodIn_r _ [16, 17, 12, 1, 18, 8, 9, 10, 5, 11, 19, 20, 21, 22, 23, 24, 25, 26, 27, 28, 29, 35, 36, 37, 38, 39, 40, 41, 42, 43, 44, 45, 46, 47] (by decide +kernel) (by decide +kernel)
set_option maxRecDepth 20000 in
theorem gX3_livePlaceFrom_X3_arcAt : GoodIn wsX3_livePlaceFrom (wsV RX3 77 RX3 yX3_arcAt wsX3_arcAt) := goodIn_app (goodIn_of _ (by decide +kernel)) ggX3_livePlaceFrom_X3_arcAt
set_option maxRecDepth 20000 in
theorem ggX3_livePlaceFrom_X0_isLive : GoodIn wsX3_livePlaceFrom wsX0_isLive := goodIn_r _ [33, 24, 34, 25, 26, 27, 22, 28, 29, 43, 44, 45, 46, 47] (by decide +kernel) (by decide +kernel)
set_option maxRecDepth 20000 in
theorem gX3_livePlaceFrom_X0_isLive : GoodIn wsX3_livePlaceFrom (wsV RX3 81 RX0 yX0_isLive wsX0_isLive) := goodIn_app (goodIn_of _ (by decide +kernel)) ggX3_livePlaceFrom_X0_isLive
theorem dX3_livePlaceFrom_0 : decode cX3_livePlaceFrom 0 = .ok (.aload_n 0, 1) := by decide +kernel
theorem dX3_livePlaceFrom_1 : decode cX3_livePlaceFrom 1 = .ok (.iload_n 1, 1) := by decide +kernel
theorem dX3_livePlaceFrom_2 : decode cX3_livePlaceFrom 2 = .ok (.invokevirtual 74, 3) := by decide +kernel
theorem dX3_livePlaceFrom_5 : decode cX3_livePlaceFrom 5 = .ok (.istore_n 3, 1) := by decide +kernel
theorem dX3_livePlaceFrom_6 : decode cX3_livePlaceFrom 6 = .ok (.iload_n 2, 1) := by decide +kernel
theorem dX3_livePlaceFrom_7 : decode cX3_livePlaceFrom 7 = .ok (.istore 4, 2) := by decide +kernel
theorem dX3_livePlaceFrom_9 : decode cX3_livePlaceFrom 9 = .ok (.iload 4, 2) := by decide +kernel
theorem dX3_livePlaceFrom_11 : decode cX3_livePlaceFrom 11 = .ok (.iload_n 3, 1) := by decide +kernel
theorem dX3_livePlaceFrom_12 : decode cX3_livePlaceFrom 12 = .ok (.if_icmp .ge 29, 3) := by decide +kernel
theorem dX3_livePlaceFrom_15 : decode cX3_livePlaceFrom 15 = .ok (.aload_n 0, 1) := by decide +kernel
theorem dX3_livePlaceFrom_16 : decode cX3_livePlaceFrom 16 = .ok (.getfield 21, 3) := by decide +kernel
theorem dX3_livePlaceFrom_19 : decode cX3_livePlaceFrom 19 = .ok (.aload_n 0, 1) := by decide +kernel
theorem dX3_livePlaceFrom_20 : decode cX3_livePlaceFrom 20 = .ok (.iload_n 1, 1) := by decide +kernel
theorem dX3_livePlaceFrom_21 : decode cX3_livePlaceFrom 21 = .ok (.iload 4, 2) := by decide +kernel
theorem dX3_livePlaceFrom_23 : decode cX3_livePlaceFrom 23 = .ok (.invokevirtual 77, 3) := by decide +kernel
theorem dX3_livePlaceFrom_26 : decode cX3_livePlaceFrom 26 = .ok (.invokevirtual 81, 3) := by decide +kernel
theorem dX3_livePlaceFrom_29 : decode cX3_livePlaceFrom 29 = .ok (.ifCond .eq 6, 3) := by decide +kernel
theorem dX3_livePlaceFrom_32 : decode cX3_livePlaceFrom 32 = .ok (.iload 4, 2) := by decide +kernel
theorem dX3_livePlaceFrom_34 : decode cX3_livePlaceFrom 34 = .ok (.ireturn, 1) := by decide +kernel
theorem dX3_livePlaceFrom_35 : decode cX3_livePlaceFrom 35 = .ok (.iinc 4 1, 3) := by decide +kernel
theorem dX3_livePlaceFrom_38 : decode cX3_livePlaceFrom 38 = .ok (.goto (-29), 3) := by decide +kernel
theorem dX3_livePlaceFrom_41 : decode cX3_livePlaceFrom 41 = .ok (.iconst (-1), 1) := by decide +kernel
theorem dX3_livePlaceFrom_42 : decode cX3_livePlaceFrom 42 = .ok (.ireturn, 1) := by decide +kernel
set_option maxRecDepth 20000 in
theorem ggX3_countLive_X3_countPlaces : GoodIn wsX3_countLive wsX3_countPlaces := goodIn_r _ [6, 1, 7, 8, 9, 10, 5, 11, 12, 35, 36, 37, 38, 39, 40, 41, 42, 43, 44, 45, 46, 47] (by decide +kernel) (by decide +kernel)
set_option maxRecDepth 20000 in
theorem gX3_countLive_X3_countPlaces : GoodIn wsX3_countLive (wsV RX3 74 RX3 yX3_countPlaces wsX3_countPlaces) := goodIn_app (goodIn_of _ (by decide +kernel)) ggX3_countLive_X3_countPlaces
set_option maxRecDepth 20000 in
theorem ggX3_countLive_X3_arcAt : GoodIn wsX3_countLive wsX3_arcAt := goodIn_r _ [16, 17, 12, 1, 18, 8, 9, 10, 5, 11, 19, 20, 21, 22, 23, 24, 25, 26, 27, 28, 29, 35, 36, 37, 38, 39, 40, 41, 42, 43, 44, 45, 46, 47] (by decide +kernel) (by decide +kernel)
set_option maxRecDepth 20000 in
theorem gX3_countLive_X3_arcAt : GoodIn wsX3_countLive (wsV RX3 77 RX3 yX3_arcAt wsX3_arcAt) := goodIn_app (goodIn_of _ (by decide +kernel)) ggX3_countLive_X3_arcAt
set_option maxRecDepth 20000 in
theorem ggX3_countLive_X0_isLive : GoodIn wsX3_countLive wsX0_isLive := goodIn_r _ [33, 24, 34, 25, 26, 27, 22, 28, 29, 43, 44, 45, 46, 47] (by decide +kernel) (by decide +kernel)
set_option maxRecDepth 20000 in
theorem gX3_countLive_X0_isLive : GoodIn wsX3_countLive (wsV RX3 81 RX0 yX0_isLive wsX0_isLive) := goodIn_app (goodIn_of _ (by decide +kernel)) ggX3_countLive_X0_isLive
theorem dX3_countLive_0 : decode cX3_countLive 0 = .ok (.aload_n 0, 1) := by decide +kernel
theorem dX3_countLive_1 : decode cX3_countLive 1 = .ok (.iload_n 1, 1) := by decide +kernel
theorem dX3_countLive_2 : decode cX3_countLive 2 = .ok (.invokevirtual 74, 3) := by decide +kernel
theorem dX3_countLive_5 : decode cX3_countLive 5 = .ok (.istore_n 2, 1) := by decide +kernel
theorem dX3_countLive_6 : decode cX3_countLive 6 = .ok (.iconst 0, 1) := by decide +kernel
theorem dX3_countLive_7 : decode cX3_countLive 7 = .ok (.istore_n 3, 1) := by decide +kernel
theorem dX3_countLive_8 : decode cX3_countLive 8 = .ok (.iconst 0, 1) := by decide +kernel
theorem dX3_countLive_9 : decode cX3_countLive 9 = .ok (.istore 4, 2) := by decide +kernel
theorem dX3_countLive_11 : decode cX3_countLive 11 = .ok (.iload 4, 2) := by decide +kernel
theorem dX3_countLive_13 : decode cX3_countLive 13 = .ok (.iload_n 2, 1) := by decide +kernel
theorem dX3_countLive_14 : decode cX3_countLive 14 = .ok (.if_icmp .ge 29, 3) := by decide +kernel
theorem dX3_countLive_17 : decode cX3_countLive 17 = .ok (.aload_n 0, 1) := by decide +kernel
theorem dX3_countLive_18 : decode cX3_countLive 18 = .ok (.getfield 21, 3) := by decide +kernel
theorem dX3_countLive_21 : decode cX3_countLive 21 = .ok (.aload_n 0, 1) := by decide +kernel
theorem dX3_countLive_22 : decode cX3_countLive 22 = .ok (.iload_n 1, 1) := by decide +kernel
theorem dX3_countLive_23 : decode cX3_countLive 23 = .ok (.iload 4, 2) := by decide +kernel
theorem dX3_countLive_25 : decode cX3_countLive 25 = .ok (.invokevirtual 77, 3) := by decide +kernel
theorem dX3_countLive_28 : decode cX3_countLive 28 = .ok (.invokevirtual 81, 3) := by decide +kernel
theorem dX3_countLive_31 : decode cX3_countLive 31 = .ok (.ifCond .eq 6, 3) := by decide +kernel
theorem dX3_countLive_34 : decode cX3_countLive 34 = .ok (.iinc 3 1, 3) := by decide +kernel
theorem dX3_countLive_37 : decode cX3_countLive 37 = .ok (.iinc 4 1, 3) := by decide +kernel
theorem dX3_countLive_40 : decode cX3_countLive 40 = .ok (.goto (-29), 3) := by decide +kernel
theorem dX3_countLive_43 : decode cX3_countLive 43 = .ok (.iload_n 3, 1) := by decide +kernel
theorem dX3_countLive_44 : decode cX3_countLive 44 = .ok (.ireturn, 1) := by decide +kernel
set_option maxRecDepth 20000 in
theorem ggX3_liveArc_X3_countPlaces : GoodIn wsX3_liveArc wsX3_countPlaces := goodIn_r _ [6, 1, 7, 8, 9, 10, 5, 11, 12, 35, 36, 37, 38, 39, 40, 41, 42, 43, 44, 45, 46, 47] (by decide +kernel) (by decide +kernel)
set_option maxRecDepth 20000 in
theorem gX3_liveArc_X3_countPlaces : GoodIn wsX3_liveArc (wsV RX3 74 RX3 yX3_countPlaces wsX3_countPlaces) := goodIn_app (goodIn_of _ (by decide +kernel)) ggX3_liveArc_X3_countPlaces
set_option maxRecDepth 20000 in
theorem ggX3_liveArc_X3_arcAt : GoodIn wsX3_liveArc wsX3_arcAt := goodIn_r _ [16, 17, 12, 1, 18, 8, 9, 10, 5, 11, 19, 20, 21, 22, 23, 24, 25, 26, 27, 28, 29, 35, 36, 37, 38, 39, 40, 41, 42, 43, 44, 45, 46, 47] (by decide +kernel) (by decide +kernel)
set_option maxRecDepth 20000 in
theorem gX3_liveArc_X3_arcAt : GoodIn wsX3_liveArc (wsV RX3 77 RX3 yX3_arcAt wsX3_arcAt) := goodIn_app (goodIn_of _ (by decide +kernel)) ggX3_liveArc_X3_arcAt
set_option maxRecDepth 20000 in
theorem ggX3_liveArc_X0_isLive : GoodIn wsX3_liveArc wsX0_isLive := goodIn_r _ [33, 24, 34, 25, 26, 27, 22, 28, 29, 43, 44, 45, 46, 47] (by decide +kernel) (by decide +kernel)
set_option maxRecDepth 20000 in
theorem gX3_liveArc_X0_isLive : GoodIn wsX3_liveArc (wsV RX3 81 RX0 yX0_isLive wsX0_isLive) := goodIn_app (goodIn_of _ (by decide +kernel)) ggX3_liveArc_X0_isLive
theorem dX3_liveArc_0 : decode cX3_liveArc 0 = .ok (.aload_n 0, 1) := by decide +kernel
theorem dX3_liveArc_1 : decode cX3_liveArc 1 = .ok (.iload_n 1, 1) := by decide +kernel
theorem dX3_liveArc_2 : decode cX3_liveArc 2 = .ok (.invokevirtual 74, 3) := by decide +kernel
theorem dX3_liveArc_5 : decode cX3_liveArc 5 = .ok (.istore_n 3, 1) := by decide +kernel
theorem dX3_liveArc_6 : decode cX3_liveArc 6 = .ok (.iconst 0, 1) := by decide +kernel
theorem dX3_liveArc_7 : decode cX3_liveArc 7 = .ok (.istore 4, 2) := by decide +kernel
theorem dX3_liveArc_9 : decode cX3_liveArc 9 = .ok (.iconst 0, 1) := by decide +kernel
theorem dX3_liveArc_10 : decode cX3_liveArc 10 = .ok (.istore 5, 2) := by decide +kernel
theorem dX3_liveArc_12 : decode cX3_liveArc 12 = .ok (.iload 5, 2) := by decide +kernel
theorem dX3_liveArc_14 : decode cX3_liveArc 14 = .ok (.iload_n 3, 1) := by decide +kernel
theorem dX3_liveArc_15 : decode cX3_liveArc 15 = .ok (.if_icmp .ge 42, 3) := by decide +kernel
theorem dX3_liveArc_18 : decode cX3_liveArc 18 = .ok (.aload_n 0, 1) := by decide +kernel
theorem dX3_liveArc_19 : decode cX3_liveArc 19 = .ok (.iload_n 1, 1) := by decide +kernel
theorem dX3_liveArc_20 : decode cX3_liveArc 20 = .ok (.iload 5, 2) := by decide +kernel
theorem dX3_liveArc_22 : decode cX3_liveArc 22 = .ok (.invokevirtual 77, 3) := by decide +kernel
theorem dX3_liveArc_25 : decode cX3_liveArc 25 = .ok (.istore 6, 2) := by decide +kernel
theorem dX3_liveArc_27 : decode cX3_liveArc 27 = .ok (.aload_n 0, 1) := by decide +kernel
theorem dX3_liveArc_28 : decode cX3_liveArc 28 = .ok (.getfield 21, 3) := by decide +kernel
theorem dX3_liveArc_31 : decode cX3_liveArc 31 = .ok (.iload 6, 2) := by decide +kernel
theorem dX3_liveArc_33 : decode cX3_liveArc 33 = .ok (.invokevirtual 81, 3) := by decide +kernel
theorem dX3_liveArc_36 : decode cX3_liveArc 36 = .ok (.ifCond .eq 15, 3) := by decide +kernel
theorem dX3_liveArc_39 : decode cX3_liveArc 39 = .ok (.iload 4, 2) := by decide +kernel
theorem dX3_liveArc_41 : decode cX3_liveArc 41 = .ok (.iload_n 2, 1) := by decide +kernel
theorem dX3_liveArc_42 : decode cX3_liveArc 42 = .ok (.if_icmp .ne 6, 3) := by decide +kernel
theorem dX3_liveArc_45 : decode cX3_liveArc 45 = .ok (.iload 6, 2) := by decide +kernel
theorem dX3_liveArc_47 : decode cX3_liveArc 47 = .ok (.ireturn, 1) := by decide +kernel
theorem dX3_liveArc_48 : decode cX3_liveArc 48 = .ok (.iinc 4 1, 3) := by decide +kernel
theorem dX3_liveArc_51 : decode cX3_liveArc 51 = .ok (.iinc 5 1, 3) := by decide +kernel
theorem dX3_liveArc_54 : decode cX3_liveArc 54 = .ok (.goto (-42), 3) := by decide +kernel
theorem dX3_liveArc_57 : decode cX3_liveArc 57 = .ok (.iconst (-1), 1) := by decide +kernel
theorem dX3_liveArc_58 : decode cX3_liveArc 58 = .ok (.ireturn, 1) := by decide +kernel
set_option maxRecDepth 20000 in
theorem ggX4_init_X0_init : GoodIn wsX4_init wsX0_init := goodIn_r _ [39, 40, 2, 3, 31, 41, 42, 43, 44, 45, 46, 84, 85, 86, 87, 88] (by decide +kernel) (by decide +kernel)
set_option maxRecDepth 20000 in
theorem gX4_init_X0_init_n24 : GoodIn wsX4_init (wsX0_init) := ggX4_init_X0_init
set_option maxRecDepth 20000 in
theorem ggX4_init_X3_init : GoodIn wsX4_init wsX3_init := goodIn_r _ [49, 50, 2, 3, 31, 51, 52, 53, 54, 55, 56, 57, 58, 89, 90, 91, 92, 93, 94, 95, 96] (by decide +kernel) (by decide +kernel)
set_option maxRecDepth 20000 in
theorem gX4_init_X3_init : GoodIn wsX4_init (wsX3_init) := ggX4_init_X3_init
set_option maxRecDepth 20000 in
theorem ggX4_init_X2_init : GoodIn wsX4_init wsX2_init := goodIn_r _ [60, 61, 2, 3, 44, 62, 63, 64, 31, 65, 66, 67, 97, 98, 99, 100, 101, 102] (by decide +kernel) (by decide +kernel)
set_option maxRecDepth 20000 in
theorem gX4_init_X2_init_n50 : GoodIn wsX4_init (wsX2_init) := ggX4_init_X2_init
set_option maxRecDepth 20000 in
theorem ggX4_init_X1_init : GoodIn wsX4_init wsX1_init := goodIn_r _ [69, 70, 2, 3, 31, 71, 72, 103, 104] (by decide +kernel) (by decide +kernel)
set_option maxRecDepth 20000 in
theorem gX4_init_X1_init_n57 : GoodIn wsX4_init (wsX1_init) := ggX4_init_X1_init
theorem dX4_init_0 : decode cX4_init 0 = .ok (.aload_n 0, 1) := by decide +kernel
theorem dX4_init_1 : decode cX4_init 1 = .ok (.invokespecial 1, 3) := by decide +kernel
theorem dX4_init_4 : decode cX4_init 4 = .ok (.aload_n 0, 1) := by decide +kernel
theorem dX4_init_5 : decode cX4_init 5 = .ok (.iconst 1, 1) := by decide +kernel
theorem dX4_init_6 : decode cX4_init 6 = .ok (.bipush 24, 2) := by decide +kernel
theorem dX4_init_8 : decode cX4_init 8 = .ok (.iload_n 1, 1) := by decide +kernel
theorem dX4_init_9 : decode cX4_init 9 = .ok (.invokestatic 9, 3) := by decide +kernel
theorem dX4_init_12 : decode cX4_init 12 = .ok (.invokestatic 15, 3) := by decide +kernel
theorem dX4_init_15 : decode cX4_init 15 = .ok (.putfield 18, 3) := by decide +kernel
theorem dX4_init_18 : decode cX4_init 18 = .ok (.aload_n 0, 1) := by decide +kernel
theorem dX4_init_19 : decode cX4_init 19 = .ok (.new 22, 3) := by decide +kernel
theorem dX4_init_22 : decode cX4_init 22 = .ok (.dup, 1) := by decide +kernel
theorem dX4_init_23 : decode cX4_init 23 = .ok (.invokespecial 24, 3) := by decide +kernel
theorem dX4_init_26 : decode cX4_init 26 = .ok (.putfield 25, 3) := by decide +kernel
theorem dX4_init_29 : decode cX4_init 29 = .ok (.aload_n 0, 1) := by decide +kernel
theorem dX4_init_30 : decode cX4_init 30 = .ok (.new 29, 3) := by decide +kernel
theorem dX4_init_33 : decode cX4_init 33 = .ok (.dup, 1) := by decide +kernel
theorem dX4_init_34 : decode cX4_init 34 = .ok (.aload_n 0, 1) := by decide +kernel
theorem dX4_init_35 : decode cX4_init 35 = .ok (.getfield 18, 3) := by decide +kernel
theorem dX4_init_38 : decode cX4_init 38 = .ok (.aload_n 0, 1) := by decide +kernel
theorem dX4_init_39 : decode cX4_init 39 = .ok (.getfield 25, 3) := by decide +kernel
theorem dX4_init_42 : decode cX4_init 42 = .ok (.aload_n 0, 1) := by decide +kernel
theorem dX4_init_43 : decode cX4_init 43 = .ok (.getfield 25, 3) := by decide +kernel
theorem dX4_init_46 : decode cX4_init 46 = .ok (.getfield 31, 3) := by decide +kernel
theorem dX4_init_49 : decode cX4_init 49 = .ok (.aload_n 0, 1) := by decide +kernel
theorem dX4_init_50 : decode cX4_init 50 = .ok (.getfield 25, 3) := by decide +kernel
theorem dX4_init_53 : decode cX4_init 53 = .ok (.getfield 35, 3) := by decide +kernel
theorem dX4_init_56 : decode cX4_init 56 = .ok (.invokespecial 38, 3) := by decide +kernel
theorem dX4_init_59 : decode cX4_init 59 = .ok (.putfield 41, 3) := by decide +kernel
theorem dX4_init_62 : decode cX4_init 62 = .ok (.aload_n 0, 1) := by decide +kernel
theorem dX4_init_63 : decode cX4_init 63 = .ok (.new 29, 3) := by decide +kernel
theorem dX4_init_66 : decode cX4_init 66 = .ok (.dup, 1) := by decide +kernel
theorem dX4_init_67 : decode cX4_init 67 = .ok (.aload_n 0, 1) := by decide +kernel
theorem dX4_init_68 : decode cX4_init 68 = .ok (.getfield 18, 3) := by decide +kernel
theorem dX4_init_71 : decode cX4_init 71 = .ok (.aload_n 0, 1) := by decide +kernel
theorem dX4_init_72 : decode cX4_init 72 = .ok (.getfield 25, 3) := by decide +kernel
theorem dX4_init_75 : decode cX4_init 75 = .ok (.aload_n 0, 1) := by decide +kernel
theorem dX4_init_76 : decode cX4_init 76 = .ok (.getfield 25, 3) := by decide +kernel
theorem dX4_init_79 : decode cX4_init 79 = .ok (.getfield 35, 3) := by decide +kernel
theorem dX4_init_82 : decode cX4_init 82 = .ok (.aload_n 0, 1) := by decide +kernel
theorem dX4_init_83 : decode cX4_init 83 = .ok (.getfield 25, 3) := by decide +kernel
theorem dX4_init_86 : decode cX4_init 86 = .ok (.getfield 31, 3) := by decide +kernel
theorem dX4_init_89 : decode cX4_init 89 = .ok (.invokespecial 38, 3) := by decide +kernel
theorem dX4_init_92 : decode cX4_init 92 = .ok (.putfield 45, 3) := by decide +kernel
theorem dX4_init_95 : decode cX4_init 95 = .ok (.aload_n 0, 1) := by decide +kernel
theorem dX4_init_96 : decode cX4_init 96 = .ok (.new 48, 3) := by decide +kernel
theorem dX4_init_99 : decode cX4_init 99 = .ok (.dup, 1) := by decide +kernel
theorem dX4_init_100 : decode cX4_init 100 = .ok (.invokespecial 50, 3) := by decide +kernel
theorem dX4_init_103 : decode cX4_init 103 = .ok (.putfield 51, 3) := by decide +kernel
theorem dX4_init_106 : decode cX4_init 106 = .ok (.aload_n 0, 1) := by decide +kernel
theorem dX4_init_107 : decode cX4_init 107 = .ok (.new 55, 3) := by decide +kernel
theorem dX4_init_110 : decode cX4_init 110 = .ok (.dup, 1) := by decide +kernel
theorem dX4_init_111 : decode cX4_init 111 = .ok (.invokespecial 57, 3) := by decide +kernel
theorem dX4_init_114 : decode cX4_init 114 = .ok (.putfield 58, 3) := by decide +kernel
theorem dX4_init_117 : decode cX4_init 117 = .ok (.aload_n 0, 1) := by decide +kernel
theorem dX4_init_118 : decode cX4_init 118 = .ok (.sipush 160, 3) := by decide +kernel
theorem dX4_init_121 : decode cX4_init 121 = .ok (.newarray .int, 2) := by decide +kernel
theorem dX4_init_123 : decode cX4_init 123 = .ok (.putfield 62, 3) := by decide +kernel
theorem dX4_init_126 : decode cX4_init 126 = .ok (.aload_n 0, 1) := by decide +kernel
theorem dX4_init_127 : decode cX4_init 127 = .ok (.iconst 0, 1) := by decide +kernel
theorem dX4_init_128 : decode cX4_init 128 = .ok (.putfield 65, 3) := by decide +kernel
theorem dX4_init_131 : decode cX4_init 131 = .ok (.aload_n 0, 1) := by decide +kernel
theorem dX4_init_132 : decode cX4_init 132 = .ok (.aload_n 0, 1) := by decide +kernel
theorem dX4_init_133 : decode cX4_init 133 = .ok (.getfield 18, 3) := by decide +kernel
theorem dX4_init_136 : decode cX4_init 136 = .ok (.newarray .int, 2) := by decide +kernel
theorem dX4_init_138 : decode cX4_init 138 = .ok (.putfield 68, 3) := by decide +kernel
theorem dX4_init_141 : decode cX4_init 141 = .ok (.aload_n 0, 1) := by decide +kernel
theorem dX4_init_142 : decode cX4_init 142 = .ok (.aload_n 0, 1) := by decide +kernel
theorem dX4_init_143 : decode cX4_init 143 = .ok (.getfield 18, 3) := by decide +kernel
theorem dX4_init_146 : decode cX4_init 146 = .ok (.newarray .long, 2) := by decide +kernel
theorem dX4_init_148 : decode cX4_init 148 = .ok (.putfield 71, 3) := by decide +kernel
theorem dX4_init_151 : decode cX4_init 151 = .ok (.aload_n 0, 1) := by decide +kernel
theorem dX4_init_152 : decode cX4_init 152 = .ok (.aload_n 0, 1) := by decide +kernel
theorem dX4_init_153 : decode cX4_init 153 = .ok (.getfield 18, 3) := by decide +kernel
theorem dX4_init_156 : decode cX4_init 156 = .ok (.newarray .long, 2) := by decide +kernel
theorem dX4_init_158 : decode cX4_init 158 = .ok (.putfield 75, 3) := by decide +kernel
theorem dX4_init_161 : decode cX4_init 161 = .ok (.return_, 1) := by decide +kernel
set_option maxRecDepth 20000 in
theorem ggX4_arc_X4_isNode : GoodIn wsX4_arc wsX4_isNode := goodIn_r _ [6, 7, 18, 19, 20, 21, 22, 23, 24, 25, 26, 27, 28] (by decide +kernel) (by decide +kernel)
set_option maxRecDepth 20000 in
theorem gX4_arc_X4_isNode : GoodIn wsX4_arc (wsV RX4 78 RX4 yX4_isNode wsX4_isNode) := goodIn_app (goodIn_of _ (by decide +kernel)) ggX4_arc_X4_isNode
set_option maxRecDepth 20000 in
theorem ggX4_arc_X0_append : GoodIn wsX4_arc wsX0_append := goodIn_r _ [12, 13, 14, 15, 16, 17, 29, 30, 31, 32, 33] (by decide +kernel) (by decide +kernel)
set_option maxRecDepth 20000 in
theorem gX4_arc_X0_append : GoodIn wsX4_arc (wsV RX4 82 RX0 yX0_append wsX0_append) := goodIn_app (goodIn_of _ (by decide +kernel)) ggX4_arc_X0_append
theorem dX4_arc_0 : decode cX4_arc 0 = .ok (.aload_n 0, 1) := by decide +kernel
theorem dX4_arc_1 : decode cX4_arc 1 = .ok (.iload_n 1, 1) := by decide +kernel
theorem dX4_arc_2 : decode cX4_arc 2 = .ok (.invokevirtual 78, 3) := by decide +kernel
theorem dX4_arc_5 : decode cX4_arc 5 = .ok (.ifCond .eq 11, 3) := by decide +kernel
theorem dX4_arc_8 : decode cX4_arc 8 = .ok (.aload_n 0, 1) := by decide +kernel
theorem dX4_arc_9 : decode cX4_arc 9 = .ok (.iload_n 2, 1) := by decide +kernel
theorem dX4_arc_10 : decode cX4_arc 10 = .ok (.invokevirtual 78, 3) := by decide +kernel
theorem dX4_arc_13 : decode cX4_arc 13 = .ok (.ifCond .ne 6, 3) := by decide +kernel
theorem dX4_arc_16 : decode cX4_arc 16 = .ok (.bipush (-2), 2) := by decide +kernel
theorem dX4_arc_18 : decode cX4_arc 18 = .ok (.ireturn, 1) := by decide +kernel
theorem dX4_arc_19 : decode cX4_arc 19 = .ok (.aload_n 0, 1) := by decide +kernel
theorem dX4_arc_20 : decode cX4_arc 20 = .ok (.getfield 25, 3) := by decide +kernel
theorem dX4_arc_23 : decode cX4_arc 23 = .ok (.iload_n 1, 1) := by decide +kernel
theorem dX4_arc_24 : decode cX4_arc 24 = .ok (.iload_n 2, 1) := by decide +kernel
theorem dX4_arc_25 : decode cX4_arc 25 = .ok (.iconst 0, 1) := by decide +kernel
theorem dX4_arc_26 : decode cX4_arc 26 = .ok (.invokevirtual 82, 3) := by decide +kernel
theorem dX4_arc_29 : decode cX4_arc 29 = .ok (.ireturn, 1) := by decide +kernel
set_option maxRecDepth 20000 in
theorem ggX4_take_X4_mark : GoodIn wsX4_take wsX4_mark := goodIn_r _ [5, 6, 7, 8, 9, 10, 11, 12, 13, 14, 15, 16, 17, 18, 19, 20, 21, 22, 23, 24, 25, 26, 27, 28, 29, 30] (by decide +kernel) (by decide +kernel)
set_option maxRecDepth 20000 in
theorem gX4_take_X4_mark : GoodIn wsX4_take (wsV RX4 86 RX4 yX4_mark wsX4_mark) := goodIn_app (goodIn_of _ (by decide +kernel)) ggX4_take_X4_mark
theorem dX4_take_0 : decode cX4_take 0 = .ok (.aload_n 0, 1) := by decide +kernel
theorem dX4_take_1 : decode cX4_take 1 = .ok (.iload_n 1, 1) := by decide +kernel
theorem dX4_take_2 : decode cX4_take 2 = .ok (.iconst 1, 1) := by decide +kernel
theorem dX4_take_3 : decode cX4_take 3 = .ok (.invokevirtual 86, 3) := by decide +kernel
theorem dX4_take_6 : decode cX4_take 6 = .ok (.ireturn, 1) := by decide +kernel
set_option maxRecDepth 20000 in
theorem ggX4_untake_X4_mark : GoodIn wsX4_untake wsX4_mark := goodIn_r _ [5, 6, 7, 8, 9, 10, 11, 12, 13, 14, 15, 16, 17, 18, 19, 20, 21, 22, 23, 24, 25, 26, 27, 28, 29, 30] (by decide +kernel) (by decide +kernel)
set_option maxRecDepth 20000 in
theorem gX4_untake_X4_mark : GoodIn wsX4_untake (wsV RX4 86 RX4 yX4_mark wsX4_mark) := goodIn_app (goodIn_of _ (by decide +kernel)) ggX4_untake_X4_mark
theorem dX4_untake_0 : decode cX4_untake 0 = .ok (.aload_n 0, 1) := by decide +kernel
theorem dX4_untake_1 : decode cX4_untake 1 = .ok (.iload_n 1, 1) := by decide +kernel
theorem dX4_untake_2 : decode cX4_untake 2 = .ok (.iconst 0, 1) := by decide +kernel
theorem dX4_untake_3 : decode cX4_untake 3 = .ok (.invokevirtual 86, 3) := by decide +kernel
theorem dX4_untake_6 : decode cX4_untake 6 = .ok (.ireturn, 1) := by decide +kernel
set_option maxRecDepth 20000 in
theorem ggX4_merge_X4_buildAnew : GoodIn wsX4_merge wsX4_buildAnew := goodIn_r _ [5, 6, 7, 8, 9, 10, 11, 12, 13, 14, 15, 16, 17, 18, 4, 19, 20, 21, 22, 23, 24, 25, 26, 27, 28, 29, 30, 31, 32, 33, 34, 35, 36, 37, 38, 39, 40, 41, 42, 43, 44, 45, 46, 47, 48, 49, 50, 51, 52, 53, 54, 55, 56, 57, 58, 59, 60, 61, 62, 63, 64, 65, 66, 67, 68, 69, 70, 71, 72, 73, 74, 75, 76, 77, 78, 79, 80, 81, 82, 83, 84, 85, 86, 87, 88] (by decide +kernel) (by decide +kernel)
set_option maxRecDepth 20000 in
theorem gX4_merge_X4_buildAnew : GoodIn wsX4_merge (wsV RX4 90 RX4 yX4_buildAnew wsX4_buildAnew) := goodIn_app (goodIn_of _ (by decide +kernel)) ggX4_merge_X4_buildAnew
theorem dX4_merge_0 : decode cX4_merge 0 = .ok (.aload_n 0, 1) := by decide +kernel
theorem dX4_merge_1 : decode cX4_merge 1 = .ok (.invokevirtual 90, 3) := by decide +kernel
theorem dX4_merge_4 : decode cX4_merge 4 = .ok (.ireturn, 1) := by decide +kernel
set_option maxRecDepth 20000 in
theorem ggX4_pack_X4_buildAnew : GoodIn wsX4_pack wsX4_buildAnew := goodIn_r _ [9, 1, 10, 11, 12, 13, 14, 15, 16, 17, 18, 19, 20, 21, 8, 22, 23, 24, 25, 26, 27, 28, 29, 30, 31, 32, 33, 34, 35, 36, 37, 38, 39, 40, 41, 42, 43, 44, 45, 46, 47, 48, 49, 50, 51, 52, 53, 54, 55, 56, 57, 58, 59, 60, 61, 72, 73, 74, 75, 76, 77, 78, 79, 80, 81, 82, 83, 84, 85, 86, 87, 88, 89, 90, 91, 92, 93, 94, 95, 96, 97, 98, 99, 100, 101] (by decide +kernel) (by decide +kernel)
set_option maxRecDepth 20000 in
theorem gX4_pack_X4_buildAnew : GoodIn wsX4_pack (wsV RX4 90 RX4 yX4_buildAnew wsX4_buildAnew) := goodIn_app (goodIn_of _ (by decide +kernel)) ggX4_pack_X4_buildAnew
set_option maxRecDepth 20000 in
theorem ggX4_pack_X0_renumber : GoodIn wsX4_pack wsX0_renumber := goodIn_r _ [65, 16, 18, 66, 67, 68, 69, 70, 14, 71, 17, 83, 84, 85, 86, 87] (by decide +kernel) (by decide +kernel)
set_option maxRecDepth 20000 in
theorem gX4_pack_X0_renumber : GoodIn wsX4_pack (wsV RX4 97 RX0 yX0_renumber wsX0_renumber) := goodIn_app (goodIn_of _ (by decide +kernel)) ggX4_pack_X0_renumber
set_option maxRecDepth 20000 in
theorem ggX4_pack_X4_buildRows : GoodIn wsX4_pack wsX4_buildRows := goodIn_r _ [22, 23, 24, 25, 26, 27, 28, 29, 30, 31, 32, 33, 34, 35, 36, 37, 38, 39, 40, 41, 42, 43, 44, 45, 46, 47, 48, 49, 50, 51, 52, 53, 54, 55, 72, 73, 74, 75, 76, 77, 78, 79, 80, 81, 82, 88, 89, 90, 91, 92, 93, 94, 95, 83, 84, 85, 86, 87] (by decide +kernel) (by decide +kernel)
set_option maxRecDepth 20000 in
theorem gX4_pack_X4_buildRows : GoodIn wsX4_pack (wsV RX4 101 RX4 yX4_buildRows wsX4_buildRows) := goodIn_app (goodIn_of _ (by decide +kernel)) ggX4_pack_X4_buildRows
theorem dX4_pack_0 : decode cX4_pack 0 = .ok (.aload_n 0, 1) := by decide +kernel
theorem dX4_pack_1 : decode cX4_pack 1 = .ok (.invokevirtual 90, 3) := by decide +kernel
theorem dX4_pack_4 : decode cX4_pack 4 = .ok (.pop, 1) := by decide +kernel
theorem dX4_pack_5 : decode cX4_pack 5 = .ok (.aload_n 0, 1) := by decide +kernel
theorem dX4_pack_6 : decode cX4_pack 6 = .ok (.aload_n 0, 1) := by decide +kernel
theorem dX4_pack_7 : decode cX4_pack 7 = .ok (.getfield 25, 3) := by decide +kernel
theorem dX4_pack_10 : decode cX4_pack 10 = .ok (.getfield 94, 3) := by decide +kernel
theorem dX4_pack_13 : decode cX4_pack 13 = .ok (.putfield 65, 3) := by decide +kernel
theorem dX4_pack_16 : decode cX4_pack 16 = .ok (.aload_n 0, 1) := by decide +kernel
theorem dX4_pack_17 : decode cX4_pack 17 = .ok (.getfield 25, 3) := by decide +kernel
theorem dX4_pack_20 : decode cX4_pack 20 = .ok (.aload_n 0, 1) := by decide +kernel
theorem dX4_pack_21 : decode cX4_pack 21 = .ok (.getfield 62, 3) := by decide +kernel
theorem dX4_pack_24 : decode cX4_pack 24 = .ok (.invokevirtual 97, 3) := by decide +kernel
theorem dX4_pack_27 : decode cX4_pack 27 = .ok (.aload_n 0, 1) := by decide +kernel
theorem dX4_pack_28 : decode cX4_pack 28 = .ok (.invokevirtual 101, 3) := by decide +kernel
theorem dX4_pack_31 : decode cX4_pack 31 = .ok (.aload_n 0, 1) := by decide +kernel
theorem dX4_pack_32 : decode cX4_pack 32 = .ok (.getfield 25, 3) := by decide +kernel
theorem dX4_pack_35 : decode cX4_pack 35 = .ok (.getfield 94, 3) := by decide +kernel
theorem dX4_pack_38 : decode cX4_pack 38 = .ok (.ireturn, 1) := by decide +kernel
theorem dX4_turned_0 : decode cX4_turned 0 = .ok (.iload_n 1, 1) := by decide +kernel
theorem dX4_turned_1 : decode cX4_turned 1 = .ok (.ifCond .lt 11, 3) := by decide +kernel
theorem dX4_turned_4 : decode cX4_turned 4 = .ok (.iload_n 1, 1) := by decide +kernel
theorem dX4_turned_5 : decode cX4_turned 5 = .ok (.aload_n 0, 1) := by decide +kernel
theorem dX4_turned_6 : decode cX4_turned 6 = .ok (.getfield 65, 3) := by decide +kernel
theorem dX4_turned_9 : decode cX4_turned 9 = .ok (.if_icmp .lt 6, 3) := by decide +kernel
theorem dX4_turned_12 : decode cX4_turned 12 = .ok (.bipush (-2), 2) := by decide +kernel
theorem dX4_turned_14 : decode cX4_turned 14 = .ok (.ireturn, 1) := by decide +kernel
theorem dX4_turned_15 : decode cX4_turned 15 = .ok (.aload_n 0, 1) := by decide +kernel
theorem dX4_turned_16 : decode cX4_turned 16 = .ok (.getfield 62, 3) := by decide +kernel
theorem dX4_turned_19 : decode cX4_turned 19 = .ok (.iload_n 1, 1) := by decide +kernel
theorem dX4_turned_20 : decode cX4_turned 20 = .ok (.iaload, 1) := by decide +kernel
theorem dX4_turned_21 : decode cX4_turned 21 = .ok (.ireturn, 1) := by decide +kernel
set_option maxRecDepth 20000 in
theorem ggX4_out_X4_arcInRow : GoodIn wsX4_out wsX4_arcInRow := goodIn_ca (goodIn_r _ [6, 7, 8, 9, 10, 11, 5, 12, 13, 14, 15, 16, 17, 18, 19, 20, 21, 22, 23, 24, 25, 26, 27, 28, 29, 30, 31, 32, 33, 34, 35, 36, 37, 38, 39, 40, 41, 42, 43, 44, 45, 46, 47, 48, 49, 50, 51, 52, 53, 54, 55, 56, 57, 58, 59, 60, 61, 62] (by decide +kernel) (by decide +kernel)) (goodIn_sub (fun _ h => List.mem_cons_of_mem _ (List.mem_append_right _ h)) (by decide +kernel))
set_option maxRecDepth 20000 in
theorem gX4_out_X4_arcInRow : GoodIn wsX4_out (wsV RX4 104 RX4 yX4_arcInRow wsX4_arcInRow) := goodIn_app (goodIn_of _ (by decide +kernel)) ggX4_out_X4_arcInRow
theorem dX4_out_0 : decode cX4_out 0 = .ok (.aload_n 0, 1) := by decide +kernel
theorem dX4_out_1 : decode cX4_out 1 = .ok (.aload_n 0, 1) := by decide +kernel
theorem dX4_out_2 : decode cX4_out 2 = .ok (.getfield 41, 3) := by decide +kernel
theorem dX4_out_5 : decode cX4_out 5 = .ok (.iload_n 1, 1) := by decide +kernel
theorem dX4_out_6 : decode cX4_out 6 = .ok (.iload_n 2, 1) := by decide +kernel
theorem dX4_out_7 : decode cX4_out 7 = .ok (.invokevirtual 104, 3) := by decide +kernel
theorem dX4_out_10 : decode cX4_out 10 = .ok (.ireturn, 1) := by decide +kernel
set_option maxRecDepth 20000 in
theorem ggX4_in_X4_arcInRow : GoodIn wsX4_in wsX4_arcInRow := goodIn_ca (goodIn_r _ [6, 7, 8, 9, 10, 11, 5, 12, 13, 14, 15, 16, 17, 18, 19, 20, 21, 22, 23, 24, 25, 26, 27, 28, 29, 30, 31, 32, 33, 34, 35, 36, 37, 38, 39, 40, 41, 42, 43, 44, 45, 46, 47, 48, 49, 50, 51, 52, 53, 54, 55, 56, 57, 58, 59, 60, 61, 62] (by decide +kernel) (by decide +kernel)) (goodIn_sub (fun _ h => List.mem_cons_of_mem _ (List.mem_append_right _ h)) (by decide +kernel))
set_option maxRecDepth 20000 in
theorem gX4_in_X4_arcInRow : GoodIn wsX4_in (wsV RX4 104 RX4 yX4_arcInRow wsX4_arcInRow) := goodIn_app (goodIn_of _ (by decide +kernel)) ggX4_in_X4_arcInRow
theorem dX4_in_0 : decode cX4_in 0 = .ok (.aload_n 0, 1) := by decide +kernel
theorem dX4_in_1 : decode cX4_in 1 = .ok (.aload_n 0, 1) := by decide +kernel
theorem dX4_in_2 : decode cX4_in 2 = .ok (.getfield 45, 3) := by decide +kernel
theorem dX4_in_5 : decode cX4_in 5 = .ok (.iload_n 1, 1) := by decide +kernel
theorem dX4_in_6 : decode cX4_in 6 = .ok (.iload_n 2, 1) := by decide +kernel
theorem dX4_in_7 : decode cX4_in 7 = .ok (.invokevirtual 104, 3) := by decide +kernel
theorem dX4_in_10 : decode cX4_in 10 = .ok (.ireturn, 1) := by decide +kernel
set_option maxRecDepth 20000 in
theorem ggX4_offset_X4_isNode : GoodIn wsX4_offset wsX4_isNode := goodIn_r _ [7, 1, 14, 15, 16, 17, 18, 19, 20, 21, 22, 23, 24] (by decide +kernel) (by decide +kernel)
set_option maxRecDepth 20000 in
theorem gX4_offset_X4_isNode : GoodIn wsX4_offset (wsV RX4 78 RX4 yX4_isNode wsX4_isNode) := goodIn_app (goodIn_of _ (by decide +kernel)) ggX4_offset_X4_isNode
set_option maxRecDepth 20000 in
theorem ggX4_offset_X4_side : GoodIn wsX4_offset wsX4_side := goodIn_r _ [11, 12, 13, 14, 15, 16, 17, 18, 19, 20, 21, 22, 23, 24] (by decide +kernel) (by decide +kernel)
set_option maxRecDepth 20000 in
theorem gX4_offset_X4_side : GoodIn wsX4_offset (wsV RX4 108 RX4 yX4_side wsX4_side) := goodIn_app (goodIn_of _ (by decide +kernel)) ggX4_offset_X4_side
theorem dX4_offset_0 : decode cX4_offset 0 = .ok (.iload_n 1, 1) := by decide +kernel
theorem dX4_offset_1 : decode cX4_offset 1 = .ok (.aload_n 0, 1) := by decide +kernel
theorem dX4_offset_2 : decode cX4_offset 2 = .ok (.getfield 18, 3) := by decide +kernel
theorem dX4_offset_5 : decode cX4_offset 5 = .ok (.if_icmp .eq 14, 3) := by decide +kernel
theorem dX4_offset_8 : decode cX4_offset 8 = .ok (.aload_n 0, 1) := by decide +kernel
theorem dX4_offset_9 : decode cX4_offset 9 = .ok (.iload_n 1, 1) := by decide +kernel
theorem dX4_offset_10 : decode cX4_offset 10 = .ok (.invokevirtual 78, 3) := by decide +kernel
theorem dX4_offset_13 : decode cX4_offset 13 = .ok (.ifCond .ne 6, 3) := by decide +kernel
theorem dX4_offset_16 : decode cX4_offset 16 = .ok (.bipush (-2), 2) := by decide +kernel
theorem dX4_offset_18 : decode cX4_offset 18 = .ok (.ireturn, 1) := by decide +kernel
theorem dX4_offset_19 : decode cX4_offset 19 = .ok (.aload_n 0, 1) := by decide +kernel
theorem dX4_offset_20 : decode cX4_offset 20 = .ok (.iload_n 2, 1) := by decide +kernel
theorem dX4_offset_21 : decode cX4_offset 21 = .ok (.invokevirtual 108, 3) := by decide +kernel
theorem dX4_offset_24 : decode cX4_offset 24 = .ok (.getfield 112, 3) := by decide +kernel
theorem dX4_offset_27 : decode cX4_offset 27 = .ok (.iload_n 1, 1) := by decide +kernel
theorem dX4_offset_28 : decode cX4_offset 28 = .ok (.iaload, 1) := by decide +kernel
theorem dX4_offset_29 : decode cX4_offset 29 = .ok (.ireturn, 1) := by decide +kernel
set_option maxRecDepth 20000 in
theorem ggX4_told_X0_has : GoodIn wsX4_told wsX0_has := goodIn_r _ [10, 11, 23, 24, 25, 26, 27] (by decide +kernel) (by decide +kernel)
set_option maxRecDepth 20000 in
theorem gX4_told_X0_has : GoodIn wsX4_told (wsV RX4 115 RX0 yX0_has wsX0_has) := goodIn_app (goodIn_of _ (by decide +kernel)) ggX4_told_X0_has
theorem dX4_told_0 : decode cX4_told 0 = .ok (.aload_n 0, 1) := by decide +kernel
theorem dX4_told_1 : decode cX4_told 1 = .ok (.getfield 25, 3) := by decide +kernel
theorem dX4_told_4 : decode cX4_told 4 = .ok (.iload_n 1, 1) := by decide +kernel
theorem dX4_told_5 : decode cX4_told 5 = .ok (.invokevirtual 115, 3) := by decide +kernel
theorem dX4_told_8 : decode cX4_told 8 = .ok (.ifCond .ne 6, 3) := by decide +kernel
theorem dX4_told_11 : decode cX4_told 11 = .ok (.bipush (-2), 2) := by decide +kernel
theorem dX4_told_13 : decode cX4_told 13 = .ok (.ireturn, 1) := by decide +kernel
theorem dX4_told_14 : decode cX4_told 14 = .ok (.iload_n 2, 1) := by decide +kernel
theorem dX4_told_15 : decode cX4_told 15 = .ok (.tableswitch 109 0 4 #[33, 43, 53, 72, 90], 33) := by decide +kernel
theorem dX4_told_48 : decode cX4_told 48 = .ok (.aload_n 0, 1) := by decide +kernel
theorem dX4_told_49 : decode cX4_told 49 = .ok (.getfield 25, 3) := by decide +kernel
theorem dX4_told_52 : decode cX4_told 52 = .ok (.getfield 31, 3) := by decide +kernel
theorem dX4_told_55 : decode cX4_told 55 = .ok (.iload_n 1, 1) := by decide +kernel
theorem dX4_told_56 : decode cX4_told 56 = .ok (.iaload, 1) := by decide +kernel
theorem dX4_told_57 : decode cX4_told 57 = .ok (.ireturn, 1) := by decide +kernel
theorem dX4_told_58 : decode cX4_told 58 = .ok (.aload_n 0, 1) := by decide +kernel
theorem dX4_told_59 : decode cX4_told 59 = .ok (.getfield 25, 3) := by decide +kernel
theorem dX4_told_62 : decode cX4_told 62 = .ok (.getfield 35, 3) := by decide +kernel
theorem dX4_told_65 : decode cX4_told 65 = .ok (.iload_n 1, 1) := by decide +kernel
theorem dX4_told_66 : decode cX4_told 66 = .ok (.iaload, 1) := by decide +kernel
theorem dX4_told_67 : decode cX4_told 67 = .ok (.ireturn, 1) := by decide +kernel
theorem dX4_told_68 : decode cX4_told 68 = .ok (.aload_n 0, 1) := by decide +kernel
theorem dX4_told_69 : decode cX4_told 69 = .ok (.getfield 25, 3) := by decide +kernel
theorem dX4_told_72 : decode cX4_told 72 = .ok (.getfield 118, 3) := by decide +kernel
theorem dX4_told_75 : decode cX4_told 75 = .ok (.iload_n 1, 1) := by decide +kernel
theorem dX4_told_76 : decode cX4_told 76 = .ok (.iaload, 1) := by decide +kernel
theorem dX4_told_77 : decode cX4_told 77 = .ok (.iconst 1, 1) := by decide +kernel
theorem dX4_told_78 : decode cX4_told 78 = .ok (.if_icmp .ne 7, 3) := by decide +kernel
theorem dX4_told_81 : decode cX4_told 81 = .ok (.iconst 1, 1) := by decide +kernel
theorem dX4_told_82 : decode cX4_told 82 = .ok (.goto 4, 3) := by decide +kernel
theorem dX4_told_85 : decode cX4_told 85 = .ok (.iconst 0, 1) := by decide +kernel
theorem dX4_told_86 : decode cX4_told 86 = .ok (.ireturn, 1) := by decide +kernel
theorem dX4_told_87 : decode cX4_told 87 = .ok (.aload_n 0, 1) := by decide +kernel
theorem dX4_told_88 : decode cX4_told 88 = .ok (.getfield 25, 3) := by decide +kernel
theorem dX4_told_91 : decode cX4_told 91 = .ok (.getfield 121, 3) := by decide +kernel
theorem dX4_told_94 : decode cX4_told 94 = .ok (.iload_n 1, 1) := by decide +kernel
theorem dX4_told_95 : decode cX4_told 95 = .ok (.baload, 1) := by decide +kernel
theorem dX4_told_96 : decode cX4_told 96 = .ok (.ifCond .eq 7, 3) := by decide +kernel
theorem dX4_told_99 : decode cX4_told 99 = .ok (.iconst 1, 1) := by decide +kernel
theorem dX4_told_100 : decode cX4_told 100 = .ok (.goto 4, 3) := by decide +kernel
theorem dX4_told_103 : decode cX4_told 103 = .ok (.iconst 0, 1) := by decide +kernel
theorem dX4_told_104 : decode cX4_told 104 = .ok (.ireturn, 1) := by decide +kernel
theorem dX4_told_105 : decode cX4_told 105 = .ok (.aload_n 0, 1) := by decide +kernel
theorem dX4_told_106 : decode cX4_told 106 = .ok (.getfield 25, 3) := by decide +kernel
theorem dX4_told_109 : decode cX4_told 109 = .ok (.getfield 118, 3) := by decide +kernel
theorem dX4_told_112 : decode cX4_told 112 = .ok (.iload_n 1, 1) := by decide +kernel
theorem dX4_told_113 : decode cX4_told 113 = .ok (.iaload, 1) := by decide +kernel
theorem dX4_told_114 : decode cX4_told 114 = .ok (.iconst 2, 1) := by decide +kernel
theorem dX4_told_115 : decode cX4_told 115 = .ok (.if_icmp .ne 7, 3) := by decide +kernel
theorem dX4_told_118 : decode cX4_told 118 = .ok (.iconst 1, 1) := by decide +kernel
theorem dX4_told_119 : decode cX4_told 119 = .ok (.goto 4, 3) := by decide +kernel
theorem dX4_told_122 : decode cX4_told 122 = .ok (.iconst 0, 1) := by decide +kernel
theorem dX4_told_123 : decode cX4_told 123 = .ok (.ireturn, 1) := by decide +kernel
theorem dX4_told_124 : decode cX4_told 124 = .ok (.bipush (-3), 2) := by decide +kernel
theorem dX4_told_126 : decode cX4_told 126 = .ok (.ireturn, 1) := by decide +kernel
set_option maxRecDepth 20000 in
theorem ggX4_degree_X4_isNode : GoodIn wsX4_degree wsX4_isNode := goodIn_r _ [5, 6, 51, 52, 53, 54, 55, 56, 57, 58, 59, 60, 61] (by decide +kernel) (by decide +kernel)
set_option maxRecDepth 20000 in
theorem gX4_degree_X4_isNode : GoodIn wsX4_degree (wsV RX4 78 RX4 yX4_isNode wsX4_isNode) := goodIn_app (goodIn_of _ (by decide +kernel)) ggX4_degree_X4_isNode
set_option maxRecDepth 20000 in
theorem ggX4_degree_X4_side : GoodIn wsX4_degree wsX4_side := goodIn_r _ [10, 11, 12, 51, 52, 53, 54, 55, 56, 57, 58, 59, 60, 61] (by decide +kernel) (by decide +kernel)
set_option maxRecDepth 20000 in
theorem gX4_degree_X4_side : GoodIn wsX4_degree (wsV RX4 108 RX4 yX4_side wsX4_side) := goodIn_app (goodIn_of _ (by decide +kernel)) ggX4_degree_X4_side
set_option maxRecDepth 20000 in
theorem ggX4_degree_X3_countLive : GoodIn wsX4_degree wsX3_countLive := goodIn_r _ [17, 18, 19, 20, 21, 16, 22, 23, 24, 25, 26, 27, 28, 29, 30, 31, 32, 33, 34, 35, 36, 37, 38, 39, 40, 41, 42, 43, 44, 45, 46, 47, 48, 49, 50, 62, 63, 64, 65, 66, 67, 68, 69, 70, 71, 72, 73, 74] (by decide +kernel) (by decide +kernel)
set_option maxRecDepth 20000 in
theorem gX4_degree_X3_countLive : GoodIn wsX4_degree (wsV RX4 125 RX3 yX3_countLive wsX3_countLive) := goodIn_app (goodIn_of _ (by decide +kernel)) ggX4_degree_X3_countLive
theorem dX4_degree_0 : decode cX4_degree 0 = .ok (.aload_n 0, 1) := by decide +kernel
theorem dX4_degree_1 : decode cX4_degree 1 = .ok (.iload_n 1, 1) := by decide +kernel
theorem dX4_degree_2 : decode cX4_degree 2 = .ok (.invokevirtual 78, 3) := by decide +kernel
theorem dX4_degree_5 : decode cX4_degree 5 = .ok (.ifCond .ne 6, 3) := by decide +kernel
theorem dX4_degree_8 : decode cX4_degree 8 = .ok (.bipush (-2), 2) := by decide +kernel
theorem dX4_degree_10 : decode cX4_degree 10 = .ok (.ireturn, 1) := by decide +kernel
theorem dX4_degree_11 : decode cX4_degree 11 = .ok (.aload_n 0, 1) := by decide +kernel
theorem dX4_degree_12 : decode cX4_degree 12 = .ok (.iload_n 2, 1) := by decide +kernel
theorem dX4_degree_13 : decode cX4_degree 13 = .ok (.invokevirtual 108, 3) := by decide +kernel
theorem dX4_degree_16 : decode cX4_degree 16 = .ok (.iload_n 1, 1) := by decide +kernel
theorem dX4_degree_17 : decode cX4_degree 17 = .ok (.invokevirtual 125, 3) := by decide +kernel
theorem dX4_degree_20 : decode cX4_degree 20 = .ok (.ireturn, 1) := by decide +kernel
set_option maxRecDepth 20000 in
theorem ggX4_live_X4_isNode : GoodIn wsX4_live wsX4_isNode := goodIn_r _ [5, 6, 51, 52, 53, 54, 55, 56, 57, 58, 59, 60, 61] (by decide +kernel) (by decide +kernel)
set_option maxRecDepth 20000 in
theorem gX4_live_X4_isNode : GoodIn wsX4_live (wsV RX4 78 RX4 yX4_isNode wsX4_isNode) := goodIn_app (goodIn_of _ (by decide +kernel)) ggX4_live_X4_isNode
set_option maxRecDepth 20000 in
theorem ggX4_live_X4_side : GoodIn wsX4_live wsX4_side := goodIn_r _ [10, 11, 12, 51, 52, 53, 54, 55, 56, 57, 58, 59, 60, 61] (by decide +kernel) (by decide +kernel)
set_option maxRecDepth 20000 in
theorem gX4_live_X4_side : GoodIn wsX4_live (wsV RX4 108 RX4 yX4_side wsX4_side) := goodIn_app (goodIn_of _ (by decide +kernel)) ggX4_live_X4_side
set_option maxRecDepth 20000 in
theorem ggX4_live_X3_liveArc : GoodIn wsX4_live wsX3_liveArc := goodIn_r _ [17, 18, 19, 20, 21, 16, 22, 23, 24, 25, 26, 27, 28, 29, 30, 31, 32, 33, 34, 35, 36, 37, 38, 39, 40, 41, 42, 43, 44, 45, 46, 47, 48, 49, 50, 62, 63, 64, 65, 66, 67, 68, 69, 70, 71, 72, 73, 74] (by decide +kernel) (by decide +kernel)
set_option maxRecDepth 20000 in
theorem gX4_live_X3_liveArc : GoodIn wsX4_live (wsV RX4 129 RX3 yX3_liveArc wsX3_liveArc) := goodIn_app (goodIn_of _ (by decide +kernel)) ggX4_live_X3_liveArc
theorem dX4_live_0 : decode cX4_live 0 = .ok (.aload_n 0, 1) := by decide +kernel
theorem dX4_live_1 : decode cX4_live 1 = .ok (.iload_n 1, 1) := by decide +kernel
theorem dX4_live_2 : decode cX4_live 2 = .ok (.invokevirtual 78, 3) := by decide +kernel
theorem dX4_live_5 : decode cX4_live 5 = .ok (.ifCond .ne 6, 3) := by decide +kernel
theorem dX4_live_8 : decode cX4_live 8 = .ok (.bipush (-2), 2) := by decide +kernel
theorem dX4_live_10 : decode cX4_live 10 = .ok (.ireturn, 1) := by decide +kernel
theorem dX4_live_11 : decode cX4_live 11 = .ok (.iload_n 3, 1) := by decide +kernel
theorem dX4_live_12 : decode cX4_live 12 = .ok (.ifCond .ge 6, 3) := by decide +kernel
theorem dX4_live_15 : decode cX4_live 15 = .ok (.bipush (-3), 2) := by decide +kernel
theorem dX4_live_17 : decode cX4_live 17 = .ok (.ireturn, 1) := by decide +kernel
theorem dX4_live_18 : decode cX4_live 18 = .ok (.aload_n 0, 1) := by decide +kernel
theorem dX4_live_19 : decode cX4_live 19 = .ok (.iload_n 2, 1) := by decide +kernel
theorem dX4_live_20 : decode cX4_live 20 = .ok (.invokevirtual 108, 3) := by decide +kernel
theorem dX4_live_23 : decode cX4_live 23 = .ok (.iload_n 1, 1) := by decide +kernel
theorem dX4_live_24 : decode cX4_live 24 = .ok (.iload_n 3, 1) := by decide +kernel
theorem dX4_live_25 : decode cX4_live 25 = .ok (.invokevirtual 129, 3) := by decide +kernel
theorem dX4_live_28 : decode cX4_live 28 = .ok (.ireturn, 1) := by decide +kernel
set_option maxRecDepth 20000 in
theorem ggX4_between_X4_isNode : GoodIn wsX4_between wsX4_isNode := goodIn_r _ [6, 7, 26, 27, 28, 29, 30, 31, 32, 33, 34, 35, 36] (by decide +kernel) (by decide +kernel)
set_option maxRecDepth 20000 in
theorem gX4_between_X4_isNode : GoodIn wsX4_between (wsV RX4 78 RX4 yX4_isNode wsX4_isNode) := goodIn_app (goodIn_of _ (by decide +kernel)) ggX4_between_X4_isNode
set_option maxRecDepth 20000 in
theorem ggX4_between_X0_countLiveBetween : GoodIn wsX4_between wsX0_countLiveBetween := goodIn_r _ [12, 13, 14, 15, 16, 17, 18, 11, 19, 20, 21, 22, 23, 24, 25, 37, 38, 39, 40, 41] (by decide +kernel) (by decide +kernel)
set_option maxRecDepth 20000 in
theorem gX4_between_X0_countLiveBetween : GoodIn wsX4_between (wsV RX4 132 RX0 yX0_countLiveBetween wsX0_countLiveBetween) := goodIn_app (goodIn_of _ (by decide +kernel)) ggX4_between_X0_countLiveBetween
theorem dX4_between_0 : decode cX4_between 0 = .ok (.aload_n 0, 1) := by decide +kernel
theorem dX4_between_1 : decode cX4_between 1 = .ok (.iload_n 1, 1) := by decide +kernel
theorem dX4_between_2 : decode cX4_between 2 = .ok (.invokevirtual 78, 3) := by decide +kernel
theorem dX4_between_5 : decode cX4_between 5 = .ok (.ifCond .eq 11, 3) := by decide +kernel
theorem dX4_between_8 : decode cX4_between 8 = .ok (.aload_n 0, 1) := by decide +kernel
theorem dX4_between_9 : decode cX4_between 9 = .ok (.iload_n 2, 1) := by decide +kernel
theorem dX4_between_10 : decode cX4_between 10 = .ok (.invokevirtual 78, 3) := by decide +kernel
theorem dX4_between_13 : decode cX4_between 13 = .ok (.ifCond .ne 6, 3) := by decide +kernel
theorem dX4_between_16 : decode cX4_between 16 = .ok (.bipush (-2), 2) := by decide +kernel
theorem dX4_between_18 : decode cX4_between 18 = .ok (.ireturn, 1) := by decide +kernel
theorem dX4_between_19 : decode cX4_between 19 = .ok (.aload_n 0, 1) := by decide +kernel
theorem dX4_between_20 : decode cX4_between 20 = .ok (.getfield 25, 3) := by decide +kernel
theorem dX4_between_23 : decode cX4_between 23 = .ok (.iload_n 1, 1) := by decide +kernel
theorem dX4_between_24 : decode cX4_between 24 = .ok (.iload_n 2, 1) := by decide +kernel
theorem dX4_between_25 : decode cX4_between 25 = .ok (.invokevirtual 132, 3) := by decide +kernel
theorem dX4_between_28 : decode cX4_between 28 = .ok (.ireturn, 1) := by decide +kernel
set_option maxRecDepth 20000 in
theorem ggX4_near_X4_isNode : GoodIn wsX4_near wsX4_isNode := goodIn_r _ [7, 2, 32, 33, 34, 35, 36, 37, 38, 39, 40, 41, 42] (by decide +kernel) (by decide +kernel)
set_option maxRecDepth 20000 in
theorem gX4_near_X4_isNode : GoodIn wsX4_near (wsV RX4 78 RX4 yX4_isNode wsX4_isNode) := goodIn_app (goodIn_of _ (by decide +kernel)) ggX4_near_X4_isNode
set_option maxRecDepth 20000 in
theorem ggX4_near_J7_fill_53178 : GoodIn wsX4_near wsJ7_fill_53178 := goodIn_r _ [11] (by decide +kernel) (by decide +kernel)
set_option maxRecDepth 20000 in
theorem gX4_near_J7_fill_53178 : GoodIn wsX4_near (va_wsS RX4 135 yJ7_fill_53178 wsJ7_fill_53178) := goodIn_app (goodIn_of _ (by decide +kernel)) ggX4_near_J7_fill_53178
set_option maxRecDepth 20000 in
theorem ggX4_near_X4_stepOnFrom : GoodIn wsX4_near wsX4_stepOnFrom := goodIn_r _ [15, 16, 17, 18, 1, 19, 20, 21, 22, 23, 24, 25, 26, 27, 28, 29, 30, 31, 32, 33, 34, 35, 36, 37, 38, 39, 40, 41, 42, 43, 44, 45, 46, 47] (by decide +kernel) (by decide +kernel)
set_option maxRecDepth 20000 in
theorem gX4_near_X4_stepOnFrom : GoodIn wsX4_near (wsV RX4 141 RX4 yX4_stepOnFrom wsX4_stepOnFrom) := goodIn_app (goodIn_of _ (by decide +kernel)) ggX4_near_X4_stepOnFrom
theorem dX4_near_0 : decode cX4_near 0 = .ok (.aload_n 0, 1) := by decide +kernel
theorem dX4_near_1 : decode cX4_near 1 = .ok (.iload_n 1, 1) := by decide +kernel
theorem dX4_near_2 : decode cX4_near 2 = .ok (.invokevirtual 78, 3) := by decide +kernel
theorem dX4_near_5 : decode cX4_near 5 = .ok (.ifCond .eq 11, 3) := by decide +kernel
theorem dX4_near_8 : decode cX4_near 8 = .ok (.aload_n 0, 1) := by decide +kernel
theorem dX4_near_9 : decode cX4_near 9 = .ok (.iload_n 2, 1) := by decide +kernel
theorem dX4_near_10 : decode cX4_near 10 = .ok (.invokevirtual 78, 3) := by decide +kernel
theorem dX4_near_13 : decode cX4_near 13 = .ok (.ifCond .ne 6, 3) := by decide +kernel
theorem dX4_near_16 : decode cX4_near 16 = .ok (.bipush (-2), 2) := by decide +kernel
theorem dX4_near_18 : decode cX4_near 18 = .ok (.ireturn, 1) := by decide +kernel
theorem dX4_near_19 : decode cX4_near 19 = .ok (.aload_n 0, 1) := by decide +kernel
theorem dX4_near_20 : decode cX4_near 20 = .ok (.getfield 68, 3) := by decide +kernel
theorem dX4_near_23 : decode cX4_near 23 = .ok (.iconst (-1), 1) := by decide +kernel
theorem dX4_near_24 : decode cX4_near 24 = .ok (.invokestatic 135, 3) := by decide +kernel
theorem dX4_near_27 : decode cX4_near 27 = .ok (.aload_n 0, 1) := by decide +kernel
theorem dX4_near_28 : decode cX4_near 28 = .ok (.getfield 68, 3) := by decide +kernel
theorem dX4_near_31 : decode cX4_near 31 = .ok (.iload_n 1, 1) := by decide +kernel
theorem dX4_near_32 : decode cX4_near 32 = .ok (.iconst 0, 1) := by decide +kernel
theorem dX4_near_33 : decode cX4_near 33 = .ok (.iastore, 1) := by decide +kernel
theorem dX4_near_34 : decode cX4_near 34 = .ok (.iconst 0, 1) := by decide +kernel
theorem dX4_near_35 : decode cX4_near 35 = .ok (.istore_n 3, 1) := by decide +kernel
theorem dX4_near_36 : decode cX4_near 36 = .ok (.iload_n 3, 1) := by decide +kernel
theorem dX4_near_37 : decode cX4_near 37 = .ok (.aload_n 0, 1) := by decide +kernel
theorem dX4_near_38 : decode cX4_near 38 = .ok (.getfield 18, 3) := by decide +kernel
theorem dX4_near_41 : decode cX4_near 41 = .ok (.if_icmp .ge 24, 3) := by decide +kernel
theorem dX4_near_44 : decode cX4_near 44 = .ok (.aload_n 0, 1) := by decide +kernel
theorem dX4_near_45 : decode cX4_near 45 = .ok (.getfield 68, 3) := by decide +kernel
theorem dX4_near_48 : decode cX4_near 48 = .ok (.iload_n 2, 1) := by decide +kernel
theorem dX4_near_49 : decode cX4_near 49 = .ok (.iaload, 1) := by decide +kernel
theorem dX4_near_50 : decode cX4_near 50 = .ok (.iconst (-1), 1) := by decide +kernel
theorem dX4_near_51 : decode cX4_near 51 = .ok (.if_icmp .ne 14, 3) := by decide +kernel
theorem dX4_near_54 : decode cX4_near 54 = .ok (.aload_n 0, 1) := by decide +kernel
theorem dX4_near_55 : decode cX4_near 55 = .ok (.iload_n 3, 1) := by decide +kernel
theorem dX4_near_56 : decode cX4_near 56 = .ok (.invokevirtual 141, 3) := by decide +kernel
theorem dX4_near_59 : decode cX4_near 59 = .ok (.iinc 3 1, 3) := by decide +kernel
theorem dX4_near_62 : decode cX4_near 62 = .ok (.goto (-26), 3) := by decide +kernel
theorem dX4_near_65 : decode cX4_near 65 = .ok (.aload_n 0, 1) := by decide +kernel
theorem dX4_near_66 : decode cX4_near 66 = .ok (.getfield 68, 3) := by decide +kernel
theorem dX4_near_69 : decode cX4_near 69 = .ok (.iload_n 2, 1) := by decide +kernel
theorem dX4_near_70 : decode cX4_near 70 = .ok (.iaload, 1) := by decide +kernel
theorem dX4_near_71 : decode cX4_near 71 = .ok (.ireturn, 1) := by decide +kernel
set_option maxRecDepth 20000 in
theorem ggX4_ways_X4_isNode : GoodIn wsX4_ways wsX4_isNode := goodIn_r _ [8, 9, 39, 40, 41, 42, 43, 44, 45, 46, 47, 48, 49] (by decide +kernel) (by decide +kernel)
set_option maxRecDepth 20000 in
theorem gX4_ways_X4_isNode : GoodIn wsX4_ways (wsV RX4 78 RX4 yX4_isNode wsX4_isNode) := goodIn_app (goodIn_of _ (by decide +kernel)) ggX4_ways_X4_isNode
set_option maxRecDepth 20000 in
theorem ggX4_ways_J7_fill_d0a16 : GoodIn wsX4_ways wsJ7_fill_d0a16 := goodIn_r _ [13] (by decide +kernel) (by decide +kernel)
set_option maxRecDepth 20000 in
theorem gX4_ways_J7_fill_d0a16 : GoodIn wsX4_ways (va_wsS RX4 149 yJ7_fill_d0a16 wsJ7_fill_d0a16) := goodIn_app (goodIn_of _ (by decide +kernel)) ggX4_ways_J7_fill_d0a16
set_option maxRecDepth 20000 in
theorem ggX4_ways_X4_lengthenWays : GoodIn wsX4_ways wsX4_lengthenWays := goodIn_r _ [17, 18, 19, 20, 21, 3, 22, 9, 23, 24, 25, 26, 10, 11, 12, 13, 27, 28, 29, 30, 31, 32, 33, 34, 35, 36, 37, 38, 39, 40, 41, 42, 43, 44, 45, 46, 47, 48, 49, 50, 51, 52, 53, 54] (by decide +kernel) (by decide +kernel)
set_option maxRecDepth 20000 in
theorem gX4_ways_X4_lengthenWays : GoodIn wsX4_ways (wsV RX4 152 RX4 yX4_lengthenWays wsX4_lengthenWays) := goodIn_app (goodIn_of _ (by decide +kernel)) ggX4_ways_X4_lengthenWays
theorem dX4_ways_0 : decode cX4_ways 0 = .ok (.aload_n 0, 1) := by decide +kernel
theorem dX4_ways_1 : decode cX4_ways 1 = .ok (.iload_n 1, 1) := by decide +kernel
theorem dX4_ways_2 : decode cX4_ways 2 = .ok (.invokevirtual 78, 3) := by decide +kernel
theorem dX4_ways_5 : decode cX4_ways 5 = .ok (.ifCond .eq 11, 3) := by decide +kernel
theorem dX4_ways_8 : decode cX4_ways 8 = .ok (.aload_n 0, 1) := by decide +kernel
theorem dX4_ways_9 : decode cX4_ways 9 = .ok (.iload_n 2, 1) := by decide +kernel
theorem dX4_ways_10 : decode cX4_ways 10 = .ok (.invokevirtual 78, 3) := by decide +kernel
theorem dX4_ways_13 : decode cX4_ways 13 = .ok (.ifCond .ne 7, 3) := by decide +kernel
theorem dX4_ways_16 : decode cX4_ways 16 = .ok (.ldc2_w 145, 3) := by decide +kernel
theorem dX4_ways_19 : decode cX4_ways 19 = .ok (.lreturn, 1) := by decide +kernel
theorem dX4_ways_20 : decode cX4_ways 20 = .ok (.iload_n 3, 1) := by decide +kernel
theorem dX4_ways_21 : decode cX4_ways 21 = .ok (.ifCond .lt 9, 3) := by decide +kernel
theorem dX4_ways_24 : decode cX4_ways 24 = .ok (.iload_n 3, 1) := by decide +kernel
theorem dX4_ways_25 : decode cX4_ways 25 = .ok (.bipush 60, 2) := by decide +kernel
theorem dX4_ways_27 : decode cX4_ways 27 = .ok (.if_icmp .le 7, 3) := by decide +kernel
theorem dX4_ways_30 : decode cX4_ways 30 = .ok (.ldc2_w 147, 3) := by decide +kernel
theorem dX4_ways_33 : decode cX4_ways 33 = .ok (.lreturn, 1) := by decide +kernel
theorem dX4_ways_34 : decode cX4_ways 34 = .ok (.aload_n 0, 1) := by decide +kernel
theorem dX4_ways_35 : decode cX4_ways 35 = .ok (.getfield 71, 3) := by decide +kernel
theorem dX4_ways_38 : decode cX4_ways 38 = .ok (.lconst 0, 1) := by decide +kernel
theorem dX4_ways_39 : decode cX4_ways 39 = .ok (.invokestatic 149, 3) := by decide +kernel
theorem dX4_ways_42 : decode cX4_ways 42 = .ok (.aload_n 0, 1) := by decide +kernel
theorem dX4_ways_43 : decode cX4_ways 43 = .ok (.getfield 71, 3) := by decide +kernel
theorem dX4_ways_46 : decode cX4_ways 46 = .ok (.iload_n 1, 1) := by decide +kernel
theorem dX4_ways_47 : decode cX4_ways 47 = .ok (.lconst 1, 1) := by decide +kernel
theorem dX4_ways_48 : decode cX4_ways 48 = .ok (.lastore, 1) := by decide +kernel
theorem dX4_ways_49 : decode cX4_ways 49 = .ok (.iconst 0, 1) := by decide +kernel
theorem dX4_ways_50 : decode cX4_ways 50 = .ok (.istore 4, 2) := by decide +kernel
theorem dX4_ways_52 : decode cX4_ways 52 = .ok (.iload 4, 2) := by decide +kernel
theorem dX4_ways_54 : decode cX4_ways 54 = .ok (.iload_n 3, 1) := by decide +kernel
theorem dX4_ways_55 : decode cX4_ways 55 = .ok (.if_icmp .ge 13, 3) := by decide +kernel
theorem dX4_ways_58 : decode cX4_ways 58 = .ok (.aload_n 0, 1) := by decide +kernel
theorem dX4_ways_59 : decode cX4_ways 59 = .ok (.invokevirtual 152, 3) := by decide +kernel
theorem dX4_ways_62 : decode cX4_ways 62 = .ok (.iinc 4 1, 3) := by decide +kernel
theorem dX4_ways_65 : decode cX4_ways 65 = .ok (.goto (-13), 3) := by decide +kernel
theorem dX4_ways_68 : decode cX4_ways 68 = .ok (.aload_n 0, 1) := by decide +kernel
theorem dX4_ways_69 : decode cX4_ways 69 = .ok (.getfield 71, 3) := by decide +kernel
theorem dX4_ways_72 : decode cX4_ways 72 = .ok (.iload_n 2, 1) := by decide +kernel
theorem dX4_ways_73 : decode cX4_ways 73 = .ok (.laload, 1) := by decide +kernel
theorem dX4_ways_74 : decode cX4_ways 74 = .ok (.lreturn, 1) := by decide +kernel
set_option maxRecDepth 20000 in
theorem ggX4_open_X4_isNode : GoodIn wsX4_open wsX4_isNode := goodIn_r _ [6, 7, 23, 24, 25, 26, 27, 28, 29, 30, 31, 32, 33] (by decide +kernel) (by decide +kernel)
set_option maxRecDepth 20000 in
theorem gX4_open_X4_isNode : GoodIn wsX4_open (wsV RX4 78 RX4 yX4_isNode wsX4_isNode) := goodIn_app (goodIn_of _ (by decide +kernel)) ggX4_open_X4_isNode
set_option maxRecDepth 20000 in
theorem ggX4_open_X2_leastFree : GoodIn wsX4_open wsX2_leastFree := goodIn_r _ [12, 13, 34, 35, 36, 37, 38, 39] (by decide +kernel) (by decide +kernel)
set_option maxRecDepth 20000 in
theorem gX4_open_X2_leastFree : GoodIn wsX4_open (wsV RX4 155 RX2 yX2_leastFree wsX2_leastFree) := goodIn_app (goodIn_of _ (by decide +kernel)) ggX4_open_X2_leastFree
set_option maxRecDepth 20000 in
theorem ggX4_open_X2_start : GoodIn wsX4_open wsX2_start := goodIn_r _ [17, 13, 18, 19, 20, 21, 22, 34, 35, 36, 37, 38, 39] (by decide +kernel) (by decide +kernel)
set_option maxRecDepth 20000 in
theorem gX4_open_X2_start : GoodIn wsX4_open (wsV RX4 158 RX2 yX2_start wsX2_start) := goodIn_app (goodIn_of _ (by decide +kernel)) ggX4_open_X2_start
theorem dX4_open_0 : decode cX4_open 0 = .ok (.aload_n 0, 1) := by decide +kernel
theorem dX4_open_1 : decode cX4_open 1 = .ok (.iload_n 1, 1) := by decide +kernel
theorem dX4_open_2 : decode cX4_open 2 = .ok (.invokevirtual 78, 3) := by decide +kernel
theorem dX4_open_5 : decode cX4_open 5 = .ok (.ifCond .ne 6, 3) := by decide +kernel
theorem dX4_open_8 : decode cX4_open 8 = .ok (.bipush (-2), 2) := by decide +kernel
theorem dX4_open_10 : decode cX4_open 10 = .ok (.ireturn, 1) := by decide +kernel
theorem dX4_open_11 : decode cX4_open 11 = .ok (.aload_n 0, 1) := by decide +kernel
theorem dX4_open_12 : decode cX4_open 12 = .ok (.getfield 51, 3) := by decide +kernel
theorem dX4_open_15 : decode cX4_open 15 = .ok (.invokevirtual 155, 3) := by decide +kernel
theorem dX4_open_18 : decode cX4_open 18 = .ok (.istore_n 3, 1) := by decide +kernel
theorem dX4_open_19 : decode cX4_open 19 = .ok (.iload_n 3, 1) := by decide +kernel
theorem dX4_open_20 : decode cX4_open 20 = .ok (.iconst (-1), 1) := by decide +kernel
theorem dX4_open_21 : decode cX4_open 21 = .ok (.if_icmp .ne 6, 3) := by decide +kernel
theorem dX4_open_24 : decode cX4_open 24 = .ok (.bipush (-6), 2) := by decide +kernel
theorem dX4_open_26 : decode cX4_open 26 = .ok (.ireturn, 1) := by decide +kernel
theorem dX4_open_27 : decode cX4_open 27 = .ok (.aload_n 0, 1) := by decide +kernel
theorem dX4_open_28 : decode cX4_open 28 = .ok (.getfield 51, 3) := by decide +kernel
theorem dX4_open_31 : decode cX4_open 31 = .ok (.iload_n 3, 1) := by decide +kernel
theorem dX4_open_32 : decode cX4_open 32 = .ok (.iload_n 1, 1) := by decide +kernel
theorem dX4_open_33 : decode cX4_open 33 = .ok (.iload_n 2, 1) := by decide +kernel
theorem dX4_open_34 : decode cX4_open 34 = .ok (.invokevirtual 158, 3) := by decide +kernel
theorem dX4_open_37 : decode cX4_open 37 = .ok (.iload_n 3, 1) := by decide +kernel
theorem dX4_open_38 : decode cX4_open 38 = .ok (.ireturn, 1) := by decide +kernel
set_option maxRecDepth 20000 in
theorem ggX4_next_X2_has : GoodIn wsX4_next wsX2_has := goodIn_r _ [10, 11, 75, 76, 77, 78, 79, 80] (by decide +kernel) (by decide +kernel)
set_option maxRecDepth 20000 in
theorem gX4_next_X2_has : GoodIn wsX4_next (wsV RX4 162 RX2 yX2_has wsX2_has) := goodIn_app (goodIn_of _ (by decide +kernel)) ggX4_next_X2_has
set_option maxRecDepth 20000 in
theorem ggX4_next_X4_side : GoodIn wsX4_next wsX4_side := goodIn_r _ [16, 17, 18, 64, 65, 66, 67, 68, 69, 70, 71, 72, 73, 74] (by decide +kernel) (by decide +kernel)
set_option maxRecDepth 20000 in
theorem gX4_next_X4_side : GoodIn wsX4_next (wsV RX4 108 RX4 yX4_side wsX4_side) := goodIn_app (goodIn_of _ (by decide +kernel)) ggX4_next_X4_side
set_option maxRecDepth 20000 in
theorem ggX4_next_X3_livePlaceFrom : GoodIn wsX4_next wsX3_livePlaceFrom := goodIn_r _ [23, 24, 25, 26, 27, 22, 28, 29, 30, 31, 32, 33, 34, 35, 36, 37, 38, 39, 40, 41, 42, 43, 44, 45, 46, 47, 48, 49, 50, 51, 52, 53, 54, 55, 56, 81, 82, 83, 84, 85, 86, 87, 88, 89, 90, 91, 92, 93] (by decide +kernel) (by decide +kernel)
set_option maxRecDepth 20000 in
theorem gX4_next_X3_livePlaceFrom : GoodIn wsX4_next (wsV RX4 175 RX3 yX3_livePlaceFrom wsX3_livePlaceFrom) := goodIn_app (goodIn_of _ (by decide +kernel)) ggX4_next_X3_livePlaceFrom
set_option maxRecDepth 20000 in
theorem ggX4_next_X2_moveTo : GoodIn wsX4_next wsX2_moveTo := goodIn_r _ [60, 61, 62, 75, 76, 77, 78, 79, 80] (by decide +kernel) (by decide +kernel)
set_option maxRecDepth 20000 in
theorem gX4_next_X2_moveTo : GoodIn wsX4_next (wsV RX4 178 RX2 yX2_moveTo wsX2_moveTo) := goodIn_app (goodIn_of _ (by decide +kernel)) ggX4_next_X2_moveTo
set_option maxRecDepth 20000 in
theorem ggX4_next_X3_arcAt : GoodIn wsX4_next wsX3_arcAt := goodIn_r _ [38, 39, 34, 24, 40, 30, 31, 32, 22, 33, 41, 42, 43, 44, 45, 46, 47, 48, 49, 50, 51, 81, 82, 83, 84, 85, 86, 87, 88, 89, 90, 91, 92, 93] (by decide +kernel) (by decide +kernel)
set_option maxRecDepth 20000 in
theorem gX4_next_X3_arcAt : GoodIn wsX4_next (wsV RX4 182 RX3 yX3_arcAt wsX3_arcAt) := goodIn_app (goodIn_of _ (by decide +kernel)) ggX4_next_X3_arcAt
theorem dX4_next_0 : decode cX4_next 0 = .ok (.aload_n 0, 1) := by decide +kernel
theorem dX4_next_1 : decode cX4_next 1 = .ok (.getfield 51, 3) := by decide +kernel
theorem dX4_next_4 : decode cX4_next 4 = .ok (.iload_n 1, 1) := by decide +kernel
theorem dX4_next_5 : decode cX4_next 5 = .ok (.invokevirtual 162, 3) := by decide +kernel
theorem dX4_next_8 : decode cX4_next 8 = .ok (.ifCond .ne 6, 3) := by decide +kernel
theorem dX4_next_11 : decode cX4_next 11 = .ok (.bipush (-2), 2) := by decide +kernel
theorem dX4_next_13 : decode cX4_next 13 = .ok (.ireturn, 1) := by decide +kernel
theorem dX4_next_14 : decode cX4_next 14 = .ok (.aload_n 0, 1) := by decide +kernel
theorem dX4_next_15 : decode cX4_next 15 = .ok (.getfield 51, 3) := by decide +kernel
theorem dX4_next_18 : decode cX4_next 18 = .ok (.getfield 163, 3) := by decide +kernel
theorem dX4_next_21 : decode cX4_next 21 = .ok (.iload_n 1, 1) := by decide +kernel
theorem dX4_next_22 : decode cX4_next 22 = .ok (.baload, 1) := by decide +kernel
theorem dX4_next_23 : decode cX4_next 23 = .ok (.ifCond .eq 6, 3) := by decide +kernel
theorem dX4_next_26 : decode cX4_next 26 = .ok (.bipush (-4), 2) := by decide +kernel
theorem dX4_next_28 : decode cX4_next 28 = .ok (.ireturn, 1) := by decide +kernel
theorem dX4_next_29 : decode cX4_next 29 = .ok (.aload_n 0, 1) := by decide +kernel
theorem dX4_next_30 : decode cX4_next 30 = .ok (.getfield 51, 3) := by decide +kernel
theorem dX4_next_33 : decode cX4_next 33 = .ok (.getfield 166, 3) := by decide +kernel
theorem dX4_next_36 : decode cX4_next 36 = .ok (.iload_n 1, 1) := by decide +kernel
theorem dX4_next_37 : decode cX4_next 37 = .ok (.iaload, 1) := by decide +kernel
theorem dX4_next_38 : decode cX4_next 38 = .ok (.istore_n 2, 1) := by decide +kernel
theorem dX4_next_39 : decode cX4_next 39 = .ok (.aload_n 0, 1) := by decide +kernel
theorem dX4_next_40 : decode cX4_next 40 = .ok (.aload_n 0, 1) := by decide +kernel
theorem dX4_next_41 : decode cX4_next 41 = .ok (.getfield 51, 3) := by decide +kernel
theorem dX4_next_44 : decode cX4_next 44 = .ok (.getfield 169, 3) := by decide +kernel
theorem dX4_next_47 : decode cX4_next 47 = .ok (.iload_n 1, 1) := by decide +kernel
theorem dX4_next_48 : decode cX4_next 48 = .ok (.baload, 1) := by decide +kernel
theorem dX4_next_49 : decode cX4_next 49 = .ok (.invokevirtual 108, 3) := by decide +kernel
theorem dX4_next_52 : decode cX4_next 52 = .ok (.astore_n 3, 1) := by decide +kernel
theorem dX4_next_53 : decode cX4_next 53 = .ok (.aload_n 3, 1) := by decide +kernel
theorem dX4_next_54 : decode cX4_next 54 = .ok (.iload_n 2, 1) := by decide +kernel
theorem dX4_next_55 : decode cX4_next 55 = .ok (.aload_n 0, 1) := by decide +kernel
theorem dX4_next_56 : decode cX4_next 56 = .ok (.getfield 51, 3) := by decide +kernel
theorem dX4_next_59 : decode cX4_next 59 = .ok (.getfield 172, 3) := by decide +kernel
theorem dX4_next_62 : decode cX4_next 62 = .ok (.iload_n 1, 1) := by decide +kernel
theorem dX4_next_63 : decode cX4_next 63 = .ok (.iaload, 1) := by decide +kernel
theorem dX4_next_64 : decode cX4_next 64 = .ok (.iconst 1, 1) := by decide +kernel
theorem dX4_next_65 : decode cX4_next 65 = .ok (.iadd, 1) := by decide +kernel
theorem dX4_next_66 : decode cX4_next 66 = .ok (.invokevirtual 175, 3) := by decide +kernel
theorem dX4_next_69 : decode cX4_next 69 = .ok (.istore 4, 2) := by decide +kernel
theorem dX4_next_71 : decode cX4_next 71 = .ok (.iload 4, 2) := by decide +kernel
theorem dX4_next_73 : decode cX4_next 73 = .ok (.iconst (-1), 1) := by decide +kernel
theorem dX4_next_74 : decode cX4_next 74 = .ok (.if_icmp .ne 5, 3) := by decide +kernel
theorem dX4_next_77 : decode cX4_next 77 = .ok (.iconst (-1), 1) := by decide +kernel
theorem dX4_next_78 : decode cX4_next 78 = .ok (.ireturn, 1) := by decide +kernel
theorem dX4_next_79 : decode cX4_next 79 = .ok (.aload_n 0, 1) := by decide +kernel
theorem dX4_next_80 : decode cX4_next 80 = .ok (.getfield 51, 3) := by decide +kernel
theorem dX4_next_83 : decode cX4_next 83 = .ok (.iload_n 1, 1) := by decide +kernel
theorem dX4_next_84 : decode cX4_next 84 = .ok (.iload 4, 2) := by decide +kernel
theorem dX4_next_86 : decode cX4_next 86 = .ok (.invokevirtual 178, 3) := by decide +kernel
theorem dX4_next_89 : decode cX4_next 89 = .ok (.aload_n 3, 1) := by decide +kernel
theorem dX4_next_90 : decode cX4_next 90 = .ok (.iload_n 2, 1) := by decide +kernel
theorem dX4_next_91 : decode cX4_next 91 = .ok (.iload 4, 2) := by decide +kernel
theorem dX4_next_93 : decode cX4_next 93 = .ok (.invokevirtual 182, 3) := by decide +kernel
theorem dX4_next_96 : decode cX4_next 96 = .ok (.ireturn, 1) := by decide +kernel
set_option maxRecDepth 20000 in
theorem ggX4_close_X2_has : GoodIn wsX4_close wsX2_has := goodIn_r _ [8, 9, 21, 22, 23, 24, 25, 26] (by decide +kernel) (by decide +kernel)
set_option maxRecDepth 20000 in
theorem gX4_close_X2_has : GoodIn wsX4_close (wsV RX4 162 RX2 yX2_has wsX2_has) := goodIn_app (goodIn_of _ (by decide +kernel)) ggX4_close_X2_has
theorem dX4_close_0 : decode cX4_close 0 = .ok (.aload_n 0, 1) := by decide +kernel
theorem dX4_close_1 : decode cX4_close 1 = .ok (.getfield 51, 3) := by decide +kernel
theorem dX4_close_4 : decode cX4_close 4 = .ok (.iload_n 1, 1) := by decide +kernel
theorem dX4_close_5 : decode cX4_close 5 = .ok (.invokevirtual 162, 3) := by decide +kernel
theorem dX4_close_8 : decode cX4_close 8 = .ok (.ifCond .ne 6, 3) := by decide +kernel
theorem dX4_close_11 : decode cX4_close 11 = .ok (.bipush (-2), 2) := by decide +kernel
theorem dX4_close_13 : decode cX4_close 13 = .ok (.ireturn, 1) := by decide +kernel
theorem dX4_close_14 : decode cX4_close 14 = .ok (.aload_n 0, 1) := by decide +kernel
theorem dX4_close_15 : decode cX4_close 15 = .ok (.getfield 51, 3) := by decide +kernel
theorem dX4_close_18 : decode cX4_close 18 = .ok (.getfield 185, 3) := by decide +kernel
theorem dX4_close_21 : decode cX4_close 21 = .ok (.iload_n 1, 1) := by decide +kernel
theorem dX4_close_22 : decode cX4_close 22 = .ok (.iconst 0, 1) := by decide +kernel
theorem dX4_close_23 : decode cX4_close 23 = .ok (.bastore, 1) := by decide +kernel
theorem dX4_close_24 : decode cX4_close 24 = .ok (.aload_n 0, 1) := by decide +kernel
theorem dX4_close_25 : decode cX4_close 25 = .ok (.getfield 51, 3) := by decide +kernel
theorem dX4_close_28 : decode cX4_close 28 = .ok (.getfield 188, 3) := by decide +kernel
theorem dX4_close_31 : decode cX4_close 31 = .ok (.iload_n 1, 1) := by decide +kernel
theorem dX4_close_32 : decode cX4_close 32 = .ok (.iaload, 1) := by decide +kernel
theorem dX4_close_33 : decode cX4_close 33 = .ok (.ireturn, 1) := by decide +kernel
theorem dX4_give_0 : decode cX4_give 0 = .ok (.iload_n 1, 1) := by decide +kernel
theorem dX4_give_1 : decode cX4_give 1 = .ok (.ifCond .eq 13, 3) := by decide +kernel
theorem dX4_give_4 : decode cX4_give 4 = .ok (.aload_n 0, 1) := by decide +kernel
theorem dX4_give_5 : decode cX4_give 5 = .ok (.getfield 58, 3) := by decide +kernel
theorem dX4_give_8 : decode cX4_give 8 = .ok (.getfield 191, 3) := by decide +kernel
theorem dX4_give_11 : decode cX4_give 11 = .ok (.goto 10, 3) := by decide +kernel
theorem dX4_give_14 : decode cX4_give 14 = .ok (.aload_n 0, 1) := by decide +kernel
theorem dX4_give_15 : decode cX4_give 15 = .ok (.getfield 58, 3) := by decide +kernel
theorem dX4_give_18 : decode cX4_give 18 = .ok (.getfield 194, 3) := by decide +kernel
theorem dX4_give_21 : decode cX4_give 21 = .ok (.astore 4, 2) := by decide +kernel
theorem dX4_give_23 : decode cX4_give 23 = .ok (.iload_n 2, 1) := by decide +kernel
theorem dX4_give_24 : decode cX4_give 24 = .ok (.ifCond .lt 10, 3) := by decide +kernel
theorem dX4_give_27 : decode cX4_give 27 = .ok (.iload_n 2, 1) := by decide +kernel
theorem dX4_give_28 : decode cX4_give 28 = .ok (.aload 4, 2) := by decide +kernel
theorem dX4_give_30 : decode cX4_give 30 = .ok (.arraylength, 1) := by decide +kernel
theorem dX4_give_31 : decode cX4_give 31 = .ok (.if_icmp .lt 6, 3) := by decide +kernel
theorem dX4_give_34 : decode cX4_give 34 = .ok (.bipush (-3), 2) := by decide +kernel
theorem dX4_give_36 : decode cX4_give 36 = .ok (.ireturn, 1) := by decide +kernel
theorem dX4_give_37 : decode cX4_give 37 = .ok (.aload 4, 2) := by decide +kernel
theorem dX4_give_39 : decode cX4_give 39 = .ok (.iload_n 2, 1) := by decide +kernel
theorem dX4_give_40 : decode cX4_give 40 = .ok (.iaload, 1) := by decide +kernel
theorem dX4_give_41 : decode cX4_give 41 = .ok (.istore 5, 2) := by decide +kernel
theorem dX4_give_43 : decode cX4_give 43 = .ok (.aload 4, 2) := by decide +kernel
theorem dX4_give_45 : decode cX4_give 45 = .ok (.iload_n 2, 1) := by decide +kernel
theorem dX4_give_46 : decode cX4_give 46 = .ok (.iload_n 3, 1) := by decide +kernel
theorem dX4_give_47 : decode cX4_give 47 = .ok (.iastore, 1) := by decide +kernel
theorem dX4_give_48 : decode cX4_give 48 = .ok (.iload 5, 2) := by decide +kernel
theorem dX4_give_50 : decode cX4_give 50 = .ok (.ireturn, 1) := by decide +kernel
set_option maxRecDepth 20000 in
theorem ggX4_load_X1_firstFault : GoodIn wsX4_load wsX1_firstFault := goodIn_r _ [10, 11, 12, 13, 14, 9, 15, 16, 87, 88] (by decide +kernel) (by decide +kernel)
set_option maxRecDepth 20000 in
theorem gX4_load_X1_firstFault : GoodIn wsX4_load (wsV RX4 195 RX1 yX1_firstFault wsX1_firstFault) := goodIn_app (goodIn_of _ (by decide +kernel)) ggX4_load_X1_firstFault
set_option maxRecDepth 20000 in
theorem ggX4_load_X1_fill : GoodIn wsX4_load wsX1_fill := goodIn_r _ [20, 21, 16, 11, 22, 23, 24, 25, 26, 27, 28, 29, 30, 31, 89, 90, 91, 92, 93, 87, 88] (by decide +kernel) (by decide +kernel)
set_option maxRecDepth 20000 in
theorem gX4_load_X1_fill : GoodIn wsX4_load (wsV RX4 198 RX1 yX1_fill wsX1_fill) := goodIn_app (goodIn_of _ (by decide +kernel)) ggX4_load_X1_fill
set_option maxRecDepth 20000 in
theorem ggX4_load_X4_buildRows : GoodIn wsX4_load wsX4_buildRows := goodIn_r _ [36, 37, 38, 39, 40, 41, 42, 43, 44, 45, 46, 47, 48, 49, 50, 51, 52, 53, 54, 55, 56, 57, 58, 59, 60, 61, 62, 63, 64, 65, 66, 67, 68, 69, 76, 77, 78, 79, 80, 81, 82, 83, 84, 85, 86, 94, 95, 96, 97, 98, 99, 100, 101, 89, 90, 91, 92, 93] (by decide +kernel) (by decide +kernel)
set_option maxRecDepth 20000 in
theorem gX4_load_X4_buildRows : GoodIn wsX4_load (wsV RX4 101 RX4 yX4_buildRows wsX4_buildRows) := goodIn_app (goodIn_of _ (by decide +kernel)) ggX4_load_X4_buildRows
set_option maxRecDepth 20000 in
theorem ggX4_load_X2_makeStale : GoodIn wsX4_load wsX2_makeStale := goodIn_r _ [74, 75, 102, 103, 104, 105, 106, 107] (by decide +kernel) (by decide +kernel)
set_option maxRecDepth 20000 in
theorem gX4_load_X2_makeStale : GoodIn wsX4_load (wsV RX4 201 RX2 yX2_makeStale wsX2_makeStale) := goodIn_app (goodIn_of _ (by decide +kernel)) ggX4_load_X2_makeStale
theorem dX4_load_0 : decode cX4_load 0 = .ok (.iload_n 1, 1) := by decide +kernel
theorem dX4_load_1 : decode cX4_load 1 = .ok (.ifCond .lt 10, 3) := by decide +kernel
theorem dX4_load_4 : decode cX4_load 4 = .ok (.iload_n 1, 1) := by decide +kernel
theorem dX4_load_5 : decode cX4_load 5 = .ok (.sipush 160, 3) := by decide +kernel
theorem dX4_load_8 : decode cX4_load 8 = .ok (.if_icmp .le 6, 3) := by decide +kernel
theorem dX4_load_11 : decode cX4_load 11 = .ok (.bipush (-3), 2) := by decide +kernel
theorem dX4_load_13 : decode cX4_load 13 = .ok (.ireturn, 1) := by decide +kernel
theorem dX4_load_14 : decode cX4_load 14 = .ok (.aload_n 0, 1) := by decide +kernel
theorem dX4_load_15 : decode cX4_load 15 = .ok (.getfield 58, 3) := by decide +kernel
theorem dX4_load_18 : decode cX4_load 18 = .ok (.aload_n 0, 1) := by decide +kernel
theorem dX4_load_19 : decode cX4_load 19 = .ok (.getfield 18, 3) := by decide +kernel
theorem dX4_load_22 : decode cX4_load 22 = .ok (.iload_n 1, 1) := by decide +kernel
theorem dX4_load_23 : decode cX4_load 23 = .ok (.invokevirtual 195, 3) := by decide +kernel
theorem dX4_load_26 : decode cX4_load 26 = .ok (.istore_n 2, 1) := by decide +kernel
theorem dX4_load_27 : decode cX4_load 27 = .ok (.iload_n 2, 1) := by decide +kernel
theorem dX4_load_28 : decode cX4_load 28 = .ok (.ifCond .eq 5, 3) := by decide +kernel
theorem dX4_load_31 : decode cX4_load 31 = .ok (.iload_n 2, 1) := by decide +kernel
theorem dX4_load_32 : decode cX4_load 32 = .ok (.ireturn, 1) := by decide +kernel
theorem dX4_load_33 : decode cX4_load 33 = .ok (.aload_n 0, 1) := by decide +kernel
theorem dX4_load_34 : decode cX4_load 34 = .ok (.getfield 58, 3) := by decide +kernel
theorem dX4_load_37 : decode cX4_load 37 = .ok (.aload_n 0, 1) := by decide +kernel
theorem dX4_load_38 : decode cX4_load 38 = .ok (.getfield 25, 3) := by decide +kernel
theorem dX4_load_41 : decode cX4_load 41 = .ok (.aload_n 0, 1) := by decide +kernel
theorem dX4_load_42 : decode cX4_load 42 = .ok (.getfield 18, 3) := by decide +kernel
theorem dX4_load_45 : decode cX4_load 45 = .ok (.invokevirtual 198, 3) := by decide +kernel
theorem dX4_load_48 : decode cX4_load 48 = .ok (.aload_n 0, 1) := by decide +kernel
theorem dX4_load_49 : decode cX4_load 49 = .ok (.invokevirtual 101, 3) := by decide +kernel
theorem dX4_load_52 : decode cX4_load 52 = .ok (.aload_n 0, 1) := by decide +kernel
theorem dX4_load_53 : decode cX4_load 53 = .ok (.getfield 51, 3) := by decide +kernel
theorem dX4_load_56 : decode cX4_load 56 = .ok (.invokevirtual 201, 3) := by decide +kernel
theorem dX4_load_59 : decode cX4_load 59 = .ok (.aload_n 0, 1) := by decide +kernel
theorem dX4_load_60 : decode cX4_load 60 = .ok (.iconst 0, 1) := by decide +kernel
theorem dX4_load_61 : decode cX4_load 61 = .ok (.putfield 65, 3) := by decide +kernel
theorem dX4_load_64 : decode cX4_load 64 = .ok (.iconst 0, 1) := by decide +kernel
theorem dX4_load_65 : decode cX4_load 65 = .ok (.ireturn, 1) := by decide +kernel
set_option maxRecDepth 20000 in
theorem ggX4_about_X0_countInState : GoodIn wsX4_about wsX0_countInState := goodIn_r _ [9, 10, 11, 42, 43, 44, 45, 46] (by decide +kernel) (by decide +kernel)
set_option maxRecDepth 20000 in
theorem gX4_about_X0_countInState : GoodIn wsX4_about (wsV RX4 204 RX0 yX0_countInState wsX0_countInState) := goodIn_app (goodIn_of _ (by decide +kernel)) ggX4_about_X0_countInState
set_option maxRecDepth 20000 in
theorem ggX4_about_X0_countLive : GoodIn wsX4_about wsX0_countLive := goodIn_r _ [15, 10, 16, 17, 18, 8, 19, 11, 20, 21, 22, 23, 24, 42, 43, 44, 45, 46] (by decide +kernel) (by decide +kernel)
set_option maxRecDepth 20000 in
theorem gX4_about_X0_countLive : GoodIn wsX4_about (wsV RX4 207 RX0 yX0_countLive wsX0_countLive) := goodIn_app (goodIn_of _ (by decide +kernel)) ggX4_about_X0_countLive
set_option maxRecDepth 20000 in
theorem ggX4_about_X2_countOpen : GoodIn wsX4_about wsX2_countOpen := goodIn_r _ [29, 30, 47, 48, 49, 50, 51, 52] (by decide +kernel) (by decide +kernel)
set_option maxRecDepth 20000 in
theorem gX4_about_X2_countOpen : GoodIn wsX4_about (wsV RX4 209 RX2 yX2_countOpen wsX2_countOpen) := goodIn_app (goodIn_of _ (by decide +kernel)) ggX4_about_X2_countOpen
theorem dX4_about_0 : decode cX4_about 0 = .ok (.iload_n 1, 1) := by decide +kernel
theorem dX4_about_1 : decode cX4_about 1 = .ok (.tableswitch 86 0 5 #[39, 44, 52, 61, 70, 78], 39) := by decide +kernel
theorem dX4_about_40 : decode cX4_about 40 = .ok (.aload_n 0, 1) := by decide +kernel
theorem dX4_about_41 : decode cX4_about 41 = .ok (.getfield 18, 3) := by decide +kernel
theorem dX4_about_44 : decode cX4_about 44 = .ok (.ireturn, 1) := by decide +kernel
theorem dX4_about_45 : decode cX4_about 45 = .ok (.aload_n 0, 1) := by decide +kernel
theorem dX4_about_46 : decode cX4_about 46 = .ok (.getfield 25, 3) := by decide +kernel
theorem dX4_about_49 : decode cX4_about 49 = .ok (.getfield 94, 3) := by decide +kernel
theorem dX4_about_52 : decode cX4_about 52 = .ok (.ireturn, 1) := by decide +kernel
theorem dX4_about_53 : decode cX4_about 53 = .ok (.aload_n 0, 1) := by decide +kernel
theorem dX4_about_54 : decode cX4_about 54 = .ok (.getfield 25, 3) := by decide +kernel
theorem dX4_about_57 : decode cX4_about 57 = .ok (.iconst 1, 1) := by decide +kernel
theorem dX4_about_58 : decode cX4_about 58 = .ok (.invokevirtual 204, 3) := by decide +kernel
theorem dX4_about_61 : decode cX4_about 61 = .ok (.ireturn, 1) := by decide +kernel
theorem dX4_about_62 : decode cX4_about 62 = .ok (.aload_n 0, 1) := by decide +kernel
theorem dX4_about_63 : decode cX4_about 63 = .ok (.getfield 25, 3) := by decide +kernel
theorem dX4_about_66 : decode cX4_about 66 = .ok (.iconst 0, 1) := by decide +kernel
theorem dX4_about_67 : decode cX4_about 67 = .ok (.invokevirtual 204, 3) := by decide +kernel
theorem dX4_about_70 : decode cX4_about 70 = .ok (.ireturn, 1) := by decide +kernel
theorem dX4_about_71 : decode cX4_about 71 = .ok (.aload_n 0, 1) := by decide +kernel
theorem dX4_about_72 : decode cX4_about 72 = .ok (.getfield 25, 3) := by decide +kernel
theorem dX4_about_75 : decode cX4_about 75 = .ok (.invokevirtual 207, 3) := by decide +kernel
theorem dX4_about_78 : decode cX4_about 78 = .ok (.ireturn, 1) := by decide +kernel
theorem dX4_about_79 : decode cX4_about 79 = .ok (.aload_n 0, 1) := by decide +kernel
theorem dX4_about_80 : decode cX4_about 80 = .ok (.getfield 51, 3) := by decide +kernel
theorem dX4_about_83 : decode cX4_about 83 = .ok (.invokevirtual 209, 3) := by decide +kernel
theorem dX4_about_86 : decode cX4_about 86 = .ok (.ireturn, 1) := by decide +kernel
theorem dX4_about_87 : decode cX4_about 87 = .ok (.bipush (-3), 2) := by decide +kernel
theorem dX4_about_89 : decode cX4_about 89 = .ok (.ireturn, 1) := by decide +kernel
theorem dX4_isNode_0 : decode cX4_isNode 0 = .ok (.iload_n 1, 1) := by decide +kernel
theorem dX4_isNode_1 : decode cX4_isNode 1 = .ok (.ifCond .lt 15, 3) := by decide +kernel
theorem dX4_isNode_4 : decode cX4_isNode 4 = .ok (.iload_n 1, 1) := by decide +kernel
theorem dX4_isNode_5 : decode cX4_isNode 5 = .ok (.aload_n 0, 1) := by decide +kernel
theorem dX4_isNode_6 : decode cX4_isNode 6 = .ok (.getfield 18, 3) := by decide +kernel
theorem dX4_isNode_9 : decode cX4_isNode 9 = .ok (.if_icmp .ge 7, 3) := by decide +kernel
theorem dX4_isNode_12 : decode cX4_isNode 12 = .ok (.iconst 1, 1) := by decide +kernel
theorem dX4_isNode_13 : decode cX4_isNode 13 = .ok (.goto 4, 3) := by decide +kernel
theorem dX4_isNode_16 : decode cX4_isNode 16 = .ok (.iconst 0, 1) := by decide +kernel
theorem dX4_isNode_17 : decode cX4_isNode 17 = .ok (.ireturn, 1) := by decide +kernel
theorem dX4_side_0 : decode cX4_side 0 = .ok (.iload_n 1, 1) := by decide +kernel
theorem dX4_side_1 : decode cX4_side 1 = .ok (.ifCond .eq 10, 3) := by decide +kernel
theorem dX4_side_4 : decode cX4_side 4 = .ok (.aload_n 0, 1) := by decide +kernel
theorem dX4_side_5 : decode cX4_side 5 = .ok (.getfield 45, 3) := by decide +kernel
theorem dX4_side_8 : decode cX4_side 8 = .ok (.goto 7, 3) := by decide +kernel
theorem dX4_side_11 : decode cX4_side 11 = .ok (.aload_n 0, 1) := by decide +kernel
theorem dX4_side_12 : decode cX4_side 12 = .ok (.getfield 41, 3) := by decide +kernel
theorem dX4_side_15 : decode cX4_side 15 = .ok (.areturn, 1) := by decide +kernel
set_option maxRecDepth 20000 in
theorem ggX4_mark_X0_has : GoodIn wsX4_mark wsX0_has := goodIn_r _ [8, 9, 21, 22, 23, 24, 25] (by decide +kernel) (by decide +kernel)
set_option maxRecDepth 20000 in
theorem gX4_mark_X0_has : GoodIn wsX4_mark (wsV RX4 115 RX0 yX0_has wsX0_has) := goodIn_app (goodIn_of _ (by decide +kernel)) ggX4_mark_X0_has
theorem dX4_mark_0 : decode cX4_mark 0 = .ok (.aload_n 0, 1) := by decide +kernel
theorem dX4_mark_1 : decode cX4_mark 1 = .ok (.getfield 25, 3) := by decide +kernel
theorem dX4_mark_4 : decode cX4_mark 4 = .ok (.iload_n 1, 1) := by decide +kernel
theorem dX4_mark_5 : decode cX4_mark 5 = .ok (.invokevirtual 115, 3) := by decide +kernel
theorem dX4_mark_8 : decode cX4_mark 8 = .ok (.ifCond .ne 6, 3) := by decide +kernel
theorem dX4_mark_11 : decode cX4_mark 11 = .ok (.bipush (-2), 2) := by decide +kernel
theorem dX4_mark_13 : decode cX4_mark 13 = .ok (.ireturn, 1) := by decide +kernel
theorem dX4_mark_14 : decode cX4_mark 14 = .ok (.aload_n 0, 1) := by decide +kernel
theorem dX4_mark_15 : decode cX4_mark 15 = .ok (.getfield 25, 3) := by decide +kernel
theorem dX4_mark_18 : decode cX4_mark 18 = .ok (.getfield 118, 3) := by decide +kernel
theorem dX4_mark_21 : decode cX4_mark 21 = .ok (.iload_n 1, 1) := by decide +kernel
theorem dX4_mark_22 : decode cX4_mark 22 = .ok (.iaload, 1) := by decide +kernel
theorem dX4_mark_23 : decode cX4_mark 23 = .ok (.iconst 2, 1) := by decide +kernel
theorem dX4_mark_24 : decode cX4_mark 24 = .ok (.if_icmp .ne 6, 3) := by decide +kernel
theorem dX4_mark_27 : decode cX4_mark 27 = .ok (.bipush (-5), 2) := by decide +kernel
theorem dX4_mark_29 : decode cX4_mark 29 = .ok (.ireturn, 1) := by decide +kernel
theorem dX4_mark_30 : decode cX4_mark 30 = .ok (.aload_n 0, 1) := by decide +kernel
theorem dX4_mark_31 : decode cX4_mark 31 = .ok (.getfield 25, 3) := by decide +kernel
theorem dX4_mark_34 : decode cX4_mark 34 = .ok (.getfield 121, 3) := by decide +kernel
theorem dX4_mark_37 : decode cX4_mark 37 = .ok (.iload_n 1, 1) := by decide +kernel
theorem dX4_mark_38 : decode cX4_mark 38 = .ok (.baload, 1) := by decide +kernel
theorem dX4_mark_39 : decode cX4_mark 39 = .ok (.iload_n 2, 1) := by decide +kernel
theorem dX4_mark_40 : decode cX4_mark 40 = .ok (.if_icmp .ne 5, 3) := by decide +kernel
theorem dX4_mark_43 : decode cX4_mark 43 = .ok (.iconst 0, 1) := by decide +kernel
theorem dX4_mark_44 : decode cX4_mark 44 = .ok (.ireturn, 1) := by decide +kernel
theorem dX4_mark_45 : decode cX4_mark 45 = .ok (.aload_n 0, 1) := by decide +kernel
theorem dX4_mark_46 : decode cX4_mark 46 = .ok (.getfield 25, 3) := by decide +kernel
theorem dX4_mark_49 : decode cX4_mark 49 = .ok (.getfield 121, 3) := by decide +kernel
theorem dX4_mark_52 : decode cX4_mark 52 = .ok (.iload_n 1, 1) := by decide +kernel
theorem dX4_mark_53 : decode cX4_mark 53 = .ok (.iload_n 2, 1) := by decide +kernel
theorem dX4_mark_54 : decode cX4_mark 54 = .ok (.bastore, 1) := by decide +kernel
theorem dX4_mark_55 : decode cX4_mark 55 = .ok (.iconst 1, 1) := by decide +kernel
theorem dX4_mark_56 : decode cX4_mark 56 = .ok (.ireturn, 1) := by decide +kernel
set_option maxRecDepth 20000 in
theorem ggX4_buildAnew_X0_settle : GoodIn wsX4_buildAnew wsX0_settle := goodIn_r _ [7, 8, 9, 10, 66, 67, 68, 69, 70] (by decide +kernel) (by decide +kernel)
set_option maxRecDepth 20000 in
theorem gX4_buildAnew_X0_settle : GoodIn wsX4_buildAnew (wsV RX4 212 RX0 yX0_settle wsX0_settle) := goodIn_app (goodIn_of _ (by decide +kernel)) ggX4_buildAnew_X0_settle
set_option maxRecDepth 20000 in
theorem ggX4_buildAnew_X4_buildRows : GoodIn wsX4_buildAnew wsX4_buildRows := goodIn_r _ [15, 16, 17, 18, 19, 20, 21, 22, 23, 24, 25, 26, 27, 28, 29, 30, 31, 32, 33, 34, 35, 36, 37, 38, 39, 40, 41, 42, 43, 44, 45, 46, 47, 48, 55, 56, 57, 58, 59, 60, 61, 62, 63, 64, 65, 71, 72, 73, 74, 75, 76, 77, 78, 66, 67, 68, 69, 70] (by decide +kernel) (by decide +kernel)
set_option maxRecDepth 20000 in
theorem gX4_buildAnew_X4_buildRows : GoodIn wsX4_buildAnew (wsV RX4 101 RX4 yX4_buildRows wsX4_buildRows) := goodIn_app (goodIn_of _ (by decide +kernel)) ggX4_buildAnew_X4_buildRows
set_option maxRecDepth 20000 in
theorem ggX4_buildAnew_X2_makeStale : GoodIn wsX4_buildAnew wsX2_makeStale := goodIn_r _ [53, 54, 79, 80, 81, 82, 83, 84] (by decide +kernel) (by decide +kernel)
set_option maxRecDepth 20000 in
theorem gX4_buildAnew_X2_makeStale : GoodIn wsX4_buildAnew (wsV RX4 201 RX2 yX2_makeStale wsX2_makeStale) := goodIn_app (goodIn_of _ (by decide +kernel)) ggX4_buildAnew_X2_makeStale
theorem dX4_buildAnew_0 : decode cX4_buildAnew 0 = .ok (.aload_n 0, 1) := by decide +kernel
theorem dX4_buildAnew_1 : decode cX4_buildAnew 1 = .ok (.getfield 25, 3) := by decide +kernel
theorem dX4_buildAnew_4 : decode cX4_buildAnew 4 = .ok (.invokevirtual 212, 3) := by decide +kernel
theorem dX4_buildAnew_7 : decode cX4_buildAnew 7 = .ok (.istore_n 1, 1) := by decide +kernel
theorem dX4_buildAnew_8 : decode cX4_buildAnew 8 = .ok (.aload_n 0, 1) := by decide +kernel
theorem dX4_buildAnew_9 : decode cX4_buildAnew 9 = .ok (.invokevirtual 101, 3) := by decide +kernel
theorem dX4_buildAnew_12 : decode cX4_buildAnew 12 = .ok (.aload_n 0, 1) := by decide +kernel
theorem dX4_buildAnew_13 : decode cX4_buildAnew 13 = .ok (.getfield 51, 3) := by decide +kernel
theorem dX4_buildAnew_16 : decode cX4_buildAnew 16 = .ok (.invokevirtual 201, 3) := by decide +kernel
theorem dX4_buildAnew_19 : decode cX4_buildAnew 19 = .ok (.iload_n 1, 1) := by decide +kernel
theorem dX4_buildAnew_20 : decode cX4_buildAnew 20 = .ok (.ireturn, 1) := by decide +kernel
set_option maxRecDepth 20000 in
theorem ggX4_buildRows_X3_build : GoodIn wsX4_buildRows wsX3_build := goodIn_r _ [7, 8, 9, 10, 11, 12, 13, 14, 15, 6, 16, 17, 18, 19, 20, 21, 22, 23, 24, 25, 26, 27, 28, 29, 30, 31, 32, 33, 45, 46, 47, 48, 49, 50, 51, 52, 53, 54, 55, 56, 57] (by decide +kernel) (by decide +kernel)
set_option maxRecDepth 20000 in
theorem gX4_buildRows_X3_build : GoodIn wsX4_buildRows (wsV RX4 215 RX3 yX3_build wsX3_build) := goodIn_app (goodIn_of _ (by decide +kernel)) ggX4_buildRows_X3_build
theorem dX4_buildRows_0 : decode cX4_buildRows 0 = .ok (.aload_n 0, 1) := by decide +kernel
theorem dX4_buildRows_1 : decode cX4_buildRows 1 = .ok (.getfield 41, 3) := by decide +kernel
theorem dX4_buildRows_4 : decode cX4_buildRows 4 = .ok (.invokevirtual 215, 3) := by decide +kernel
theorem dX4_buildRows_7 : decode cX4_buildRows 7 = .ok (.aload_n 0, 1) := by decide +kernel
theorem dX4_buildRows_8 : decode cX4_buildRows 8 = .ok (.getfield 45, 3) := by decide +kernel
theorem dX4_buildRows_11 : decode cX4_buildRows 11 = .ok (.invokevirtual 215, 3) := by decide +kernel
theorem dX4_buildRows_14 : decode cX4_buildRows 14 = .ok (.return_, 1) := by decide +kernel
set_option maxRecDepth 20000 in
theorem ggX4_arcInRow_X4_isNode : GoodIn wsX4_arcInRow wsX4_isNode := goodIn_r _ [7, 8, 34, 35, 36, 37, 38, 39, 40, 41, 42, 43, 44] (by decide +kernel) (by decide +kernel)
set_option maxRecDepth 20000 in
theorem gX4_arcInRow_X4_isNode : GoodIn wsX4_arcInRow (wsV RX4 78 RX4 yX4_isNode wsX4_isNode) := goodIn_app (goodIn_of _ (by decide +kernel)) ggX4_arcInRow_X4_isNode
set_option maxRecDepth 20000 in
theorem ggX4_arcInRow_X3_rowLength : GoodIn wsX4_arcInRow wsX3_rowLength := goodIn_r _ [13, 14, 45, 46, 47, 48, 49, 50, 51, 52] (by decide +kernel) (by decide +kernel)
set_option maxRecDepth 20000 in
theorem gX4_arcInRow_X3_rowLength : GoodIn wsX4_arcInRow (wsV RX4 225 RX3 yX3_rowLength wsX3_rowLength) := goodIn_app (goodIn_of _ (by decide +kernel)) ggX4_arcInRow_X3_rowLength
set_option maxRecDepth 20000 in
theorem ggX4_arcInRow_X3_arcAt : GoodIn wsX4_arcInRow wsX3_arcAt := goodIn_r _ [18, 19, 14, 20, 21, 22, 10, 11, 12, 13, 23, 24, 25, 26, 27, 28, 29, 30, 31, 32, 33, 45, 46, 47, 48, 49, 50, 51, 52, 53, 54, 55, 56, 57] (by decide +kernel) (by decide +kernel)
set_option maxRecDepth 20000 in
theorem gX4_arcInRow_X3_arcAt : GoodIn wsX4_arcInRow (wsV RX4 182 RX3 yX3_arcAt wsX3_arcAt) := goodIn_app (goodIn_of _ (by decide +kernel)) ggX4_arcInRow_X3_arcAt
theorem dX4_arcInRow_0 : decode cX4_arcInRow 0 = .ok (.aload_n 0, 1) := by decide +kernel
theorem dX4_arcInRow_1 : decode cX4_arcInRow 1 = .ok (.iload_n 2, 1) := by decide +kernel
theorem dX4_arcInRow_2 : decode cX4_arcInRow 2 = .ok (.invokevirtual 78, 3) := by decide +kernel
theorem dX4_arcInRow_5 : decode cX4_arcInRow 5 = .ok (.ifCond .ne 13, 3) := by decide +kernel
theorem dX4_arcInRow_8 : decode cX4_arcInRow 8 = .ok (.new 218, 3) := by decide +kernel
theorem dX4_arcInRow_11 : decode cX4_arcInRow 11 = .ok (.dup, 1) := by decide +kernel
theorem dX4_arcInRow_12 : decode cX4_arcInRow 12 = .ok (.ldc 220, 2) := by decide +kernel
theorem dX4_arcInRow_14 : decode cX4_arcInRow 14 = .ok (.invokespecial 222, 3) := by decide +kernel
theorem dX4_arcInRow_17 : decode cX4_arcInRow 17 = .ok (.athrow, 1) := by decide +kernel
theorem dX4_arcInRow_18 : decode cX4_arcInRow 18 = .ok (.iload_n 3, 1) := by decide +kernel
theorem dX4_arcInRow_19 : decode cX4_arcInRow 19 = .ok (.ifCond .lt 12, 3) := by decide +kernel
theorem dX4_arcInRow_22 : decode cX4_arcInRow 22 = .ok (.iload_n 3, 1) := by decide +kernel
theorem dX4_arcInRow_23 : decode cX4_arcInRow 23 = .ok (.aload_n 1, 1) := by decide +kernel
theorem dX4_arcInRow_24 : decode cX4_arcInRow 24 = .ok (.iload_n 2, 1) := by decide +kernel
theorem dX4_arcInRow_25 : decode cX4_arcInRow 25 = .ok (.invokevirtual 225, 3) := by decide +kernel
theorem dX4_arcInRow_28 : decode cX4_arcInRow 28 = .ok (.if_icmp .lt 13, 3) := by decide +kernel
theorem dX4_arcInRow_31 : decode cX4_arcInRow 31 = .ok (.new 218, 3) := by decide +kernel
theorem dX4_arcInRow_34 : decode cX4_arcInRow 34 = .ok (.dup, 1) := by decide +kernel
theorem dX4_arcInRow_35 : decode cX4_arcInRow 35 = .ok (.ldc 228, 2) := by decide +kernel
theorem dX4_arcInRow_37 : decode cX4_arcInRow 37 = .ok (.invokespecial 222, 3) := by decide +kernel
theorem dX4_arcInRow_40 : decode cX4_arcInRow 40 = .ok (.athrow, 1) := by decide +kernel
theorem dX4_arcInRow_41 : decode cX4_arcInRow 41 = .ok (.aload_n 1, 1) := by decide +kernel
theorem dX4_arcInRow_42 : decode cX4_arcInRow 42 = .ok (.iload_n 2, 1) := by decide +kernel
theorem dX4_arcInRow_43 : decode cX4_arcInRow 43 = .ok (.iload_n 3, 1) := by decide +kernel
theorem dX4_arcInRow_44 : decode cX4_arcInRow 44 = .ok (.invokevirtual 182, 3) := by decide +kernel
theorem dX4_arcInRow_47 : decode cX4_arcInRow 47 = .ok (.ireturn, 1) := by decide +kernel
set_option maxRecDepth 20000 in
theorem ggX4_stepOnFrom_X0_isLive : GoodIn wsX4_stepOnFrom wsX0_isLive := goodIn_r _ [10, 11, 12, 13, 14, 15, 9, 16, 17, 29, 30, 31, 32, 33] (by decide +kernel) (by decide +kernel)
set_option maxRecDepth 20000 in
theorem gX4_stepOnFrom_X0_isLive : GoodIn wsX4_stepOnFrom (wsV RX4 230 RX0 yX0_isLive wsX0_isLive) := goodIn_app (goodIn_of _ (by decide +kernel)) ggX4_stepOnFrom_X0_isLive
theorem dX4_stepOnFrom_0 : decode cX4_stepOnFrom 0 = .ok (.iconst 0, 1) := by decide +kernel
theorem dX4_stepOnFrom_1 : decode cX4_stepOnFrom 1 = .ok (.istore_n 2, 1) := by decide +kernel
theorem dX4_stepOnFrom_2 : decode cX4_stepOnFrom 2 = .ok (.iload_n 2, 1) := by decide +kernel
theorem dX4_stepOnFrom_3 : decode cX4_stepOnFrom 3 = .ok (.aload_n 0, 1) := by decide +kernel
theorem dX4_stepOnFrom_4 : decode cX4_stepOnFrom 4 = .ok (.getfield 25, 3) := by decide +kernel
theorem dX4_stepOnFrom_7 : decode cX4_stepOnFrom 7 = .ok (.getfield 94, 3) := by decide +kernel
theorem dX4_stepOnFrom_10 : decode cX4_stepOnFrom 10 = .ok (.if_icmp .ge 67, 3) := by decide +kernel
theorem dX4_stepOnFrom_13 : decode cX4_stepOnFrom 13 = .ok (.aload_n 0, 1) := by decide +kernel
theorem dX4_stepOnFrom_14 : decode cX4_stepOnFrom 14 = .ok (.getfield 25, 3) := by decide +kernel
theorem dX4_stepOnFrom_17 : decode cX4_stepOnFrom 17 = .ok (.getfield 35, 3) := by decide +kernel
theorem dX4_stepOnFrom_20 : decode cX4_stepOnFrom 20 = .ok (.iload_n 2, 1) := by decide +kernel
theorem dX4_stepOnFrom_21 : decode cX4_stepOnFrom 21 = .ok (.iaload, 1) := by decide +kernel
theorem dX4_stepOnFrom_22 : decode cX4_stepOnFrom 22 = .ok (.istore_n 3, 1) := by decide +kernel
theorem dX4_stepOnFrom_23 : decode cX4_stepOnFrom 23 = .ok (.aload_n 0, 1) := by decide +kernel
theorem dX4_stepOnFrom_24 : decode cX4_stepOnFrom 24 = .ok (.getfield 25, 3) := by decide +kernel
theorem dX4_stepOnFrom_27 : decode cX4_stepOnFrom 27 = .ok (.iload_n 2, 1) := by decide +kernel
theorem dX4_stepOnFrom_28 : decode cX4_stepOnFrom 28 = .ok (.invokevirtual 230, 3) := by decide +kernel
theorem dX4_stepOnFrom_31 : decode cX4_stepOnFrom 31 = .ok (.ifCond .eq 40, 3) := by decide +kernel
theorem dX4_stepOnFrom_34 : decode cX4_stepOnFrom 34 = .ok (.aload_n 0, 1) := by decide +kernel
theorem dX4_stepOnFrom_35 : decode cX4_stepOnFrom 35 = .ok (.getfield 68, 3) := by decide +kernel
theorem dX4_stepOnFrom_38 : decode cX4_stepOnFrom 38 = .ok (.aload_n 0, 1) := by decide +kernel
theorem dX4_stepOnFrom_39 : decode cX4_stepOnFrom 39 = .ok (.getfield 25, 3) := by decide +kernel
theorem dX4_stepOnFrom_42 : decode cX4_stepOnFrom 42 = .ok (.getfield 31, 3) := by decide +kernel
theorem dX4_stepOnFrom_45 : decode cX4_stepOnFrom 45 = .ok (.iload_n 2, 1) := by decide +kernel
theorem dX4_stepOnFrom_46 : decode cX4_stepOnFrom 46 = .ok (.iaload, 1) := by decide +kernel
theorem dX4_stepOnFrom_47 : decode cX4_stepOnFrom 47 = .ok (.iaload, 1) := by decide +kernel
theorem dX4_stepOnFrom_48 : decode cX4_stepOnFrom 48 = .ok (.iload_n 1, 1) := by decide +kernel
theorem dX4_stepOnFrom_49 : decode cX4_stepOnFrom 49 = .ok (.if_icmp .ne 22, 3) := by decide +kernel
theorem dX4_stepOnFrom_52 : decode cX4_stepOnFrom 52 = .ok (.aload_n 0, 1) := by decide +kernel
theorem dX4_stepOnFrom_53 : decode cX4_stepOnFrom 53 = .ok (.getfield 68, 3) := by decide +kernel
theorem dX4_stepOnFrom_56 : decode cX4_stepOnFrom 56 = .ok (.iload_n 3, 1) := by decide +kernel
theorem dX4_stepOnFrom_57 : decode cX4_stepOnFrom 57 = .ok (.iaload, 1) := by decide +kernel
theorem dX4_stepOnFrom_58 : decode cX4_stepOnFrom 58 = .ok (.iconst (-1), 1) := by decide +kernel
theorem dX4_stepOnFrom_59 : decode cX4_stepOnFrom 59 = .ok (.if_icmp .ne 12, 3) := by decide +kernel
theorem dX4_stepOnFrom_62 : decode cX4_stepOnFrom 62 = .ok (.aload_n 0, 1) := by decide +kernel
theorem dX4_stepOnFrom_63 : decode cX4_stepOnFrom 63 = .ok (.getfield 68, 3) := by decide +kernel
theorem dX4_stepOnFrom_66 : decode cX4_stepOnFrom 66 = .ok (.iload_n 3, 1) := by decide +kernel
theorem dX4_stepOnFrom_67 : decode cX4_stepOnFrom 67 = .ok (.iload_n 1, 1) := by decide +kernel
theorem dX4_stepOnFrom_68 : decode cX4_stepOnFrom 68 = .ok (.iconst 1, 1) := by decide +kernel
theorem dX4_stepOnFrom_69 : decode cX4_stepOnFrom 69 = .ok (.iadd, 1) := by decide +kernel
theorem dX4_stepOnFrom_70 : decode cX4_stepOnFrom 70 = .ok (.iastore, 1) := by decide +kernel
theorem dX4_stepOnFrom_71 : decode cX4_stepOnFrom 71 = .ok (.iinc 2 1, 3) := by decide +kernel
theorem dX4_stepOnFrom_74 : decode cX4_stepOnFrom 74 = .ok (.goto (-72), 3) := by decide +kernel
theorem dX4_stepOnFrom_77 : decode cX4_stepOnFrom 77 = .ok (.return_, 1) := by decide +kernel
set_option maxRecDepth 20000 in
theorem ggX4_lengthenWays_J7_fill_d0a16 : GoodIn wsX4_lengthenWays wsJ7_fill_d0a16 := goodIn_r _ [15] (by decide +kernel) (by decide +kernel)
set_option maxRecDepth 20000 in
theorem gX4_lengthenWays_J7_fill_d0a16 : GoodIn wsX4_lengthenWays (va_wsS RX4 149 yJ7_fill_d0a16 wsJ7_fill_d0a16) := goodIn_app (goodIn_of _ (by decide +kernel)) ggX4_lengthenWays_J7_fill_d0a16
set_option maxRecDepth 20000 in
theorem ggX4_lengthenWays_X0_isLive : GoodIn wsX4_lengthenWays wsX0_isLive := goodIn_r _ [20, 21, 22, 23, 24, 25, 19, 26, 27, 39, 40, 41, 42, 43] (by decide +kernel) (by decide +kernel)
set_option maxRecDepth 20000 in
theorem gX4_lengthenWays_X0_isLive : GoodIn wsX4_lengthenWays (wsV RX4 230 RX0 yX0_isLive wsX0_isLive) := goodIn_app (goodIn_of _ (by decide +kernel)) ggX4_lengthenWays_X0_isLive
theorem dX4_lengthenWays_0 : decode cX4_lengthenWays 0 = .ok (.aload_n 0, 1) := by decide +kernel
theorem dX4_lengthenWays_1 : decode cX4_lengthenWays 1 = .ok (.getfield 75, 3) := by decide +kernel
theorem dX4_lengthenWays_4 : decode cX4_lengthenWays 4 = .ok (.lconst 0, 1) := by decide +kernel
theorem dX4_lengthenWays_5 : decode cX4_lengthenWays 5 = .ok (.invokestatic 149, 3) := by decide +kernel
theorem dX4_lengthenWays_8 : decode cX4_lengthenWays 8 = .ok (.iconst 0, 1) := by decide +kernel
theorem dX4_lengthenWays_9 : decode cX4_lengthenWays 9 = .ok (.istore_n 1, 1) := by decide +kernel
theorem dX4_lengthenWays_10 : decode cX4_lengthenWays 10 = .ok (.iload_n 1, 1) := by decide +kernel
theorem dX4_lengthenWays_11 : decode cX4_lengthenWays 11 = .ok (.aload_n 0, 1) := by decide +kernel
theorem dX4_lengthenWays_12 : decode cX4_lengthenWays 12 = .ok (.getfield 25, 3) := by decide +kernel
theorem dX4_lengthenWays_15 : decode cX4_lengthenWays 15 = .ok (.getfield 94, 3) := by decide +kernel
theorem dX4_lengthenWays_18 : decode cX4_lengthenWays 18 = .ok (.if_icmp .ge 51, 3) := by decide +kernel
theorem dX4_lengthenWays_21 : decode cX4_lengthenWays 21 = .ok (.aload_n 0, 1) := by decide +kernel
theorem dX4_lengthenWays_22 : decode cX4_lengthenWays 22 = .ok (.getfield 25, 3) := by decide +kernel
theorem dX4_lengthenWays_25 : decode cX4_lengthenWays 25 = .ok (.iload_n 1, 1) := by decide +kernel
theorem dX4_lengthenWays_26 : decode cX4_lengthenWays 26 = .ok (.invokevirtual 230, 3) := by decide +kernel
theorem dX4_lengthenWays_29 : decode cX4_lengthenWays 29 = .ok (.ifCond .eq 34, 3) := by decide +kernel
theorem dX4_lengthenWays_32 : decode cX4_lengthenWays 32 = .ok (.aload_n 0, 1) := by decide +kernel
theorem dX4_lengthenWays_33 : decode cX4_lengthenWays 33 = .ok (.getfield 75, 3) := by decide +kernel
theorem dX4_lengthenWays_36 : decode cX4_lengthenWays 36 = .ok (.aload_n 0, 1) := by decide +kernel
theorem dX4_lengthenWays_37 : decode cX4_lengthenWays 37 = .ok (.getfield 25, 3) := by decide +kernel
theorem dX4_lengthenWays_40 : decode cX4_lengthenWays 40 = .ok (.getfield 35, 3) := by decide +kernel
theorem dX4_lengthenWays_43 : decode cX4_lengthenWays 43 = .ok (.iload_n 1, 1) := by decide +kernel
theorem dX4_lengthenWays_44 : decode cX4_lengthenWays 44 = .ok (.iaload, 1) := by decide +kernel
theorem dX4_lengthenWays_45 : decode cX4_lengthenWays 45 = .ok (.dup2, 1) := by decide +kernel
theorem dX4_lengthenWays_46 : decode cX4_lengthenWays 46 = .ok (.laload, 1) := by decide +kernel
theorem dX4_lengthenWays_47 : decode cX4_lengthenWays 47 = .ok (.aload_n 0, 1) := by decide +kernel
theorem dX4_lengthenWays_48 : decode cX4_lengthenWays 48 = .ok (.getfield 71, 3) := by decide +kernel
theorem dX4_lengthenWays_51 : decode cX4_lengthenWays 51 = .ok (.aload_n 0, 1) := by decide +kernel
theorem dX4_lengthenWays_52 : decode cX4_lengthenWays 52 = .ok (.getfield 25, 3) := by decide +kernel
theorem dX4_lengthenWays_55 : decode cX4_lengthenWays 55 = .ok (.getfield 31, 3) := by decide +kernel
theorem dX4_lengthenWays_58 : decode cX4_lengthenWays 58 = .ok (.iload_n 1, 1) := by decide +kernel
theorem dX4_lengthenWays_59 : decode cX4_lengthenWays 59 = .ok (.iaload, 1) := by decide +kernel
theorem dX4_lengthenWays_60 : decode cX4_lengthenWays 60 = .ok (.laload, 1) := by decide +kernel
theorem dX4_lengthenWays_61 : decode cX4_lengthenWays 61 = .ok (.ladd, 1) := by decide +kernel
theorem dX4_lengthenWays_62 : decode cX4_lengthenWays 62 = .ok (.lastore, 1) := by decide +kernel
theorem dX4_lengthenWays_63 : decode cX4_lengthenWays 63 = .ok (.iinc 1 1, 3) := by decide +kernel
theorem dX4_lengthenWays_66 : decode cX4_lengthenWays 66 = .ok (.goto (-56), 3) := by decide +kernel
theorem dX4_lengthenWays_69 : decode cX4_lengthenWays 69 = .ok (.aload_n 0, 1) := by decide +kernel
theorem dX4_lengthenWays_70 : decode cX4_lengthenWays 70 = .ok (.getfield 75, 3) := by decide +kernel
theorem dX4_lengthenWays_73 : decode cX4_lengthenWays 73 = .ok (.iconst 0, 1) := by decide +kernel
theorem dX4_lengthenWays_74 : decode cX4_lengthenWays 74 = .ok (.aload_n 0, 1) := by decide +kernel
theorem dX4_lengthenWays_75 : decode cX4_lengthenWays 75 = .ok (.getfield 71, 3) := by decide +kernel
theorem dX4_lengthenWays_78 : decode cX4_lengthenWays 78 = .ok (.iconst 0, 1) := by decide +kernel
theorem dX4_lengthenWays_79 : decode cX4_lengthenWays 79 = .ok (.aload_n 0, 1) := by decide +kernel
theorem dX4_lengthenWays_80 : decode cX4_lengthenWays 80 = .ok (.getfield 18, 3) := by decide +kernel
theorem dX4_lengthenWays_83 : decode cX4_lengthenWays 83 = .ok (.invokestatic 233, 3) := by decide +kernel
theorem dX4_lengthenWays_86 : decode cX4_lengthenWays 86 = .ok (.return_, 1) := by decide +kernel
