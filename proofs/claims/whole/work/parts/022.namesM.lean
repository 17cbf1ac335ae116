theorem dX5_thrown_0 : decode cX5_thrown 0 = .ok (.aload_n 0, 1) := by decide +kernel
theorem dX5_thrown_1 : decode cX5_thrown 1 = .ok (.getfield 1, 3) := by decide +kernel
theorem dX5_thrown_4 : decode cX5_thrown 4 = .ok (.ireturn, 1) := by decide +kernel
theorem dX5_init_0 : decode cX5_init 0 = .ok (.aload_n 0, 1) := by decide +kernel
theorem dX5_init_1 : decode cX5_init 1 = .ok (.invokespecial 7, 3) := by decide +kernel
theorem dX5_init_4 : decode cX5_init 4 = .ok (.aload_n 0, 1) := by decide +kernel
theorem dX5_init_5 : decode cX5_init 5 = .ok (.sipush 160, 3) := by decide +kernel
theorem dX5_init_8 : decode cX5_init 8 = .ok (.newarray .int, 2) := by decide +kernel
theorem dX5_init_10 : decode cX5_init 10 = .ok (.putfield 13, 3) := by decide +kernel
theorem dX5_init_13 : decode cX5_init 13 = .ok (.aload_n 0, 1) := by decide +kernel
theorem dX5_init_14 : decode cX5_init 14 = .ok (.sipush 160, 3) := by decide +kernel
theorem dX5_init_17 : decode cX5_init 17 = .ok (.newarray .int, 2) := by decide +kernel
theorem dX5_init_19 : decode cX5_init 19 = .ok (.putfield 17, 3) := by decide +kernel
theorem dX5_init_22 : decode cX5_init 22 = .ok (.aload_n 0, 1) := by decide +kernel
theorem dX5_init_23 : decode cX5_init 23 = .ok (.sipush 160, 3) := by decide +kernel
theorem dX5_init_26 : decode cX5_init 26 = .ok (.newarray .int, 2) := by decide +kernel
theorem dX5_init_28 : decode cX5_init 28 = .ok (.putfield 20, 3) := by decide +kernel
theorem dX5_init_31 : decode cX5_init 31 = .ok (.aload_n 0, 1) := by decide +kernel
theorem dX5_init_32 : decode cX5_init 32 = .ok (.sipush 160, 3) := by decide +kernel
theorem dX5_init_35 : decode cX5_init 35 = .ok (.newarray .boolean, 2) := by decide +kernel
theorem dX5_init_37 : decode cX5_init 37 = .ok (.putfield 23, 3) := by decide +kernel
theorem dX5_init_40 : decode cX5_init 40 = .ok (.aload_n 0, 1) := by decide +kernel
theorem dX5_init_41 : decode cX5_init 41 = .ok (.sipush 160, 3) := by decide +kernel
theorem dX5_init_44 : decode cX5_init 44 = .ok (.newarray .int, 2) := by decide +kernel
theorem dX5_init_46 : decode cX5_init 46 = .ok (.putfield 27, 3) := by decide +kernel
theorem dX5_init_49 : decode cX5_init 49 = .ok (.aload_n 0, 1) := by decide +kernel
theorem dX5_init_50 : decode cX5_init 50 = .ok (.bipush 8, 2) := by decide +kernel
theorem dX5_init_52 : decode cX5_init 52 = .ok (.newarray .boolean, 2) := by decide +kernel
theorem dX5_init_54 : decode cX5_init 54 = .ok (.putfield 30, 3) := by decide +kernel
theorem dX5_init_57 : decode cX5_init 57 = .ok (.aload_n 0, 1) := by decide +kernel
theorem dX5_init_58 : decode cX5_init 58 = .ok (.bipush 8, 2) := by decide +kernel
theorem dX5_init_60 : decode cX5_init 60 = .ok (.newarray .boolean, 2) := by decide +kernel
theorem dX5_init_62 : decode cX5_init 62 = .ok (.putfield 33, 3) := by decide +kernel
theorem dX5_init_65 : decode cX5_init 65 = .ok (.aload_n 0, 1) := by decide +kernel
theorem dX5_init_66 : decode cX5_init 66 = .ok (.bipush 8, 2) := by decide +kernel
theorem dX5_init_68 : decode cX5_init 68 = .ok (.newarray .int, 2) := by decide +kernel
theorem dX5_init_70 : decode cX5_init 70 = .ok (.putfield 36, 3) := by decide +kernel
theorem dX5_init_73 : decode cX5_init 73 = .ok (.aload_n 0, 1) := by decide +kernel
theorem dX5_init_74 : decode cX5_init 74 = .ok (.bipush 8, 2) := by decide +kernel
theorem dX5_init_76 : decode cX5_init 76 = .ok (.newarray .boolean, 2) := by decide +kernel
theorem dX5_init_78 : decode cX5_init 78 = .ok (.putfield 39, 3) := by decide +kernel
theorem dX5_init_81 : decode cX5_init 81 = .ok (.aload_n 0, 1) := by decide +kernel
theorem dX5_init_82 : decode cX5_init 82 = .ok (.bipush 8, 2) := by decide +kernel
theorem dX5_init_84 : decode cX5_init 84 = .ok (.newarray .int, 2) := by decide +kernel
theorem dX5_init_86 : decode cX5_init 86 = .ok (.putfield 42, 3) := by decide +kernel
theorem dX5_init_89 : decode cX5_init 89 = .ok (.aload_n 0, 1) := by decide +kernel
theorem dX5_init_90 : decode cX5_init 90 = .ok (.bipush 8, 2) := by decide +kernel
theorem dX5_init_92 : decode cX5_init 92 = .ok (.newarray .int, 2) := by decide +kernel
theorem dX5_init_94 : decode cX5_init 94 = .ok (.putfield 45, 3) := by decide +kernel
theorem dX5_init_97 : decode cX5_init 97 = .ok (.aload_n 0, 1) := by decide +kernel
theorem dX5_init_98 : decode cX5_init 98 = .ok (.bipush 25, 2) := by decide +kernel
theorem dX5_init_100 : decode cX5_init 100 = .ok (.newarray .int, 2) := by decide +kernel
theorem dX5_init_102 : decode cX5_init 102 = .ok (.putfield 48, 3) := by decide +kernel
theorem dX5_init_105 : decode cX5_init 105 = .ok (.aload_n 0, 1) := by decide +kernel
theorem dX5_init_106 : decode cX5_init 106 = .ok (.sipush 160, 3) := by decide +kernel
theorem dX5_init_109 : decode cX5_init 109 = .ok (.newarray .int, 2) := by decide +kernel
theorem dX5_init_111 : decode cX5_init 111 = .ok (.putfield 51, 3) := by decide +kernel
theorem dX5_init_114 : decode cX5_init 114 = .ok (.aload_n 0, 1) := by decide +kernel
theorem dX5_init_115 : decode cX5_init 115 = .ok (.bipush 24, 2) := by decide +kernel
theorem dX5_init_117 : decode cX5_init 117 = .ok (.newarray .int, 2) := by decide +kernel
theorem dX5_init_119 : decode cX5_init 119 = .ok (.putfield 54, 3) := by decide +kernel
theorem dX5_init_122 : decode cX5_init 122 = .ok (.aload_n 0, 1) := by decide +kernel
theorem dX5_init_123 : decode cX5_init 123 = .ok (.bipush 24, 2) := by decide +kernel
theorem dX5_init_125 : decode cX5_init 125 = .ok (.newarray .long, 2) := by decide +kernel
theorem dX5_init_127 : decode cX5_init 127 = .ok (.putfield 57, 3) := by decide +kernel
theorem dX5_init_130 : decode cX5_init 130 = .ok (.aload_n 0, 1) := by decide +kernel
theorem dX5_init_131 : decode cX5_init 131 = .ok (.bipush 24, 2) := by decide +kernel
theorem dX5_init_133 : decode cX5_init 133 = .ok (.newarray .long, 2) := by decide +kernel
theorem dX5_init_135 : decode cX5_init 135 = .ok (.putfield 61, 3) := by decide +kernel
theorem dX5_init_138 : decode cX5_init 138 = .ok (.aload_n 0, 1) := by decide +kernel
theorem dX5_init_139 : decode cX5_init 139 = .ok (.iload_n 1, 1) := by decide +kernel
theorem dX5_init_140 : decode cX5_init 140 = .ok (.iconst 1, 1) := by decide +kernel
theorem dX5_init_141 : decode cX5_init 141 = .ok (.if_icmp .ge 7, 3) := by decide +kernel
theorem dX5_init_144 : decode cX5_init 144 = .ok (.iconst 1, 1) := by decide +kernel
theorem dX5_init_145 : decode cX5_init 145 = .ok (.goto 15, 3) := by decide +kernel
theorem dX5_init_148 : decode cX5_init 148 = .ok (.iload_n 1, 1) := by decide +kernel
theorem dX5_init_149 : decode cX5_init 149 = .ok (.bipush 24, 2) := by decide +kernel
theorem dX5_init_151 : decode cX5_init 151 = .ok (.if_icmp .le 8, 3) := by decide +kernel
theorem dX5_init_154 : decode cX5_init 154 = .ok (.bipush 24, 2) := by decide +kernel
theorem dX5_init_156 : decode cX5_init 156 = .ok (.goto 4, 3) := by decide +kernel
theorem dX5_init_159 : decode cX5_init 159 = .ok (.iload_n 1, 1) := by decide +kernel
theorem dX5_init_160 : decode cX5_init 160 = .ok (.putfield 64, 3) := by decide +kernel
theorem dX5_init_163 : decode cX5_init 163 = .ok (.return_, 1) := by decide +kernel
theorem dX5_isNode_0 : decode cX5_isNode 0 = .ok (.iload_n 1, 1) := by decide +kernel
theorem dX5_isNode_1 : decode cX5_isNode 1 = .ok (.ifCond .lt 15, 3) := by decide +kernel
theorem dX5_isNode_4 : decode cX5_isNode 4 = .ok (.iload_n 1, 1) := by decide +kernel
theorem dX5_isNode_5 : decode cX5_isNode 5 = .ok (.aload_n 0, 1) := by decide +kernel
theorem dX5_isNode_6 : decode cX5_isNode 6 = .ok (.getfield 64, 3) := by decide +kernel
theorem dX5_isNode_9 : decode cX5_isNode 9 = .ok (.if_icmp .ge 7, 3) := by decide +kernel
theorem dX5_isNode_12 : decode cX5_isNode 12 = .ok (.iconst 1, 1) := by decide +kernel
theorem dX5_isNode_13 : decode cX5_isNode 13 = .ok (.goto 4, 3) := by decide +kernel
theorem dX5_isNode_16 : decode cX5_isNode 16 = .ok (.iconst 0, 1) := by decide +kernel
theorem dX5_isNode_17 : decode cX5_isNode 17 = .ok (.ireturn, 1) := by decide +kernel
theorem dX5_isArc_0 : decode cX5_isArc 0 = .ok (.iload_n 1, 1) := by decide +kernel
theorem dX5_isArc_1 : decode cX5_isArc 1 = .ok (.ifCond .lt 15, 3) := by decide +kernel
theorem dX5_isArc_4 : decode cX5_isArc 4 = .ok (.iload_n 1, 1) := by decide +kernel
theorem dX5_isArc_5 : decode cX5_isArc 5 = .ok (.aload_n 0, 1) := by decide +kernel
theorem dX5_isArc_6 : decode cX5_isArc 6 = .ok (.getfield 67, 3) := by decide +kernel
theorem dX5_isArc_9 : decode cX5_isArc 9 = .ok (.if_icmp .ge 7, 3) := by decide +kernel
theorem dX5_isArc_12 : decode cX5_isArc 12 = .ok (.iconst 1, 1) := by decide +kernel
theorem dX5_isArc_13 : decode cX5_isArc 13 = .ok (.goto 4, 3) := by decide +kernel
theorem dX5_isArc_16 : decode cX5_isArc 16 = .ok (.iconst 0, 1) := by decide +kernel
theorem dX5_isArc_17 : decode cX5_isArc 17 = .ok (.ireturn, 1) := by decide +kernel
set_option maxRecDepth 20000 in
theorem ggX5_arc_X5_isNode : GoodIn wsX5_arc wsX5_isNode := goodIn_r _ [11, 12, 13, 14, 15, 16, 17, 18, 19, 20, 21, 22, 23, 24, 25, 26, 27, 28, 29, 30, 31, 32] (by decide +kernel) (by decide +kernel)
set_option maxRecDepth 20000 in
theorem gX5_arc_X5_isNode : GoodIn wsX5_arc (wsV RX5 70 RX5 yX5_isNode wsX5_isNode) := goodIn_app (goodIn_of _ (by decide +kernel)) ggX5_arc_X5_isNode
theorem dX5_arc_0 : decode cX5_arc 0 = .ok (.aload_n 0, 1) := by decide +kernel
theorem dX5_arc_1 : decode cX5_arc 1 = .ok (.iconst 0, 1) := by decide +kernel
theorem dX5_arc_2 : decode cX5_arc 2 = .ok (.putfield 1, 3) := by decide +kernel
theorem dX5_arc_5 : decode cX5_arc 5 = .ok (.aload_n 0, 1) := by decide +kernel
theorem dX5_arc_6 : decode cX5_arc 6 = .ok (.iload_n 1, 1) := by decide +kernel
theorem dX5_arc_7 : decode cX5_arc 7 = .ok (.invokevirtual 70, 3) := by decide +kernel
theorem dX5_arc_10 : decode cX5_arc 10 = .ok (.ifCond .eq 11, 3) := by decide +kernel
theorem dX5_arc_13 : decode cX5_arc 13 = .ok (.aload_n 0, 1) := by decide +kernel
theorem dX5_arc_14 : decode cX5_arc 14 = .ok (.iload_n 2, 1) := by decide +kernel
theorem dX5_arc_15 : decode cX5_arc 15 = .ok (.invokevirtual 70, 3) := by decide +kernel
theorem dX5_arc_18 : decode cX5_arc 18 = .ok (.ifCond .ne 6, 3) := by decide +kernel
theorem dX5_arc_21 : decode cX5_arc 21 = .ok (.bipush (-2), 2) := by decide +kernel
theorem dX5_arc_23 : decode cX5_arc 23 = .ok (.ireturn, 1) := by decide +kernel
theorem dX5_arc_24 : decode cX5_arc 24 = .ok (.aload_n 0, 1) := by decide +kernel
theorem dX5_arc_25 : decode cX5_arc 25 = .ok (.getfield 67, 3) := by decide +kernel
theorem dX5_arc_28 : decode cX5_arc 28 = .ok (.sipush 160, 3) := by decide +kernel
theorem dX5_arc_31 : decode cX5_arc 31 = .ok (.if_icmp .ne 6, 3) := by decide +kernel
theorem dX5_arc_34 : decode cX5_arc 34 = .ok (.bipush (-6), 2) := by decide +kernel
theorem dX5_arc_36 : decode cX5_arc 36 = .ok (.ireturn, 1) := by decide +kernel
theorem dX5_arc_37 : decode cX5_arc 37 = .ok (.aload_n 0, 1) := by decide +kernel
theorem dX5_arc_38 : decode cX5_arc 38 = .ok (.getfield 13, 3) := by decide +kernel
theorem dX5_arc_41 : decode cX5_arc 41 = .ok (.aload_n 0, 1) := by decide +kernel
theorem dX5_arc_42 : decode cX5_arc 42 = .ok (.getfield 67, 3) := by decide +kernel
theorem dX5_arc_45 : decode cX5_arc 45 = .ok (.iload_n 1, 1) := by decide +kernel
theorem dX5_arc_46 : decode cX5_arc 46 = .ok (.iastore, 1) := by decide +kernel
theorem dX5_arc_47 : decode cX5_arc 47 = .ok (.aload_n 0, 1) := by decide +kernel
theorem dX5_arc_48 : decode cX5_arc 48 = .ok (.getfield 17, 3) := by decide +kernel
theorem dX5_arc_51 : decode cX5_arc 51 = .ok (.aload_n 0, 1) := by decide +kernel
theorem dX5_arc_52 : decode cX5_arc 52 = .ok (.getfield 67, 3) := by decide +kernel
theorem dX5_arc_55 : decode cX5_arc 55 = .ok (.iload_n 2, 1) := by decide +kernel
theorem dX5_arc_56 : decode cX5_arc 56 = .ok (.iastore, 1) := by decide +kernel
theorem dX5_arc_57 : decode cX5_arc 57 = .ok (.aload_n 0, 1) := by decide +kernel
theorem dX5_arc_58 : decode cX5_arc 58 = .ok (.getfield 20, 3) := by decide +kernel
theorem dX5_arc_61 : decode cX5_arc 61 = .ok (.aload_n 0, 1) := by decide +kernel
theorem dX5_arc_62 : decode cX5_arc 62 = .ok (.getfield 67, 3) := by decide +kernel
theorem dX5_arc_65 : decode cX5_arc 65 = .ok (.iconst 0, 1) := by decide +kernel
theorem dX5_arc_66 : decode cX5_arc 66 = .ok (.iastore, 1) := by decide +kernel
theorem dX5_arc_67 : decode cX5_arc 67 = .ok (.aload_n 0, 1) := by decide +kernel
theorem dX5_arc_68 : decode cX5_arc 68 = .ok (.getfield 23, 3) := by decide +kernel
theorem dX5_arc_71 : decode cX5_arc 71 = .ok (.aload_n 0, 1) := by decide +kernel
theorem dX5_arc_72 : decode cX5_arc 72 = .ok (.getfield 67, 3) := by decide +kernel
theorem dX5_arc_75 : decode cX5_arc 75 = .ok (.iconst 0, 1) := by decide +kernel
theorem dX5_arc_76 : decode cX5_arc 76 = .ok (.bastore, 1) := by decide +kernel
theorem dX5_arc_77 : decode cX5_arc 77 = .ok (.aload_n 0, 1) := by decide +kernel
theorem dX5_arc_78 : decode cX5_arc 78 = .ok (.dup, 1) := by decide +kernel
theorem dX5_arc_79 : decode cX5_arc 79 = .ok (.getfield 67, 3) := by decide +kernel
theorem dX5_arc_82 : decode cX5_arc 82 = .ok (.iconst 1, 1) := by decide +kernel
theorem dX5_arc_83 : decode cX5_arc 83 = .ok (.iadd, 1) := by decide +kernel
theorem dX5_arc_84 : decode cX5_arc 84 = .ok (.putfield 67, 3) := by decide +kernel
theorem dX5_arc_87 : decode cX5_arc 87 = .ok (.aload_n 0, 1) := by decide +kernel
theorem dX5_arc_88 : decode cX5_arc 88 = .ok (.getfield 67, 3) := by decide +kernel
theorem dX5_arc_91 : decode cX5_arc 91 = .ok (.iconst 1, 1) := by decide +kernel
theorem dX5_arc_92 : decode cX5_arc 92 = .ok (.isub, 1) := by decide +kernel
theorem dX5_arc_93 : decode cX5_arc 93 = .ok (.ireturn, 1) := by decide +kernel
set_option maxRecDepth 20000 in
theorem ggX5_take_X5_isArc : GoodIn wsX5_take wsX5_isArc := goodIn_r _ [8, 9, 10, 11, 12, 13, 14, 15, 16, 17, 18, 19, 20, 21, 22, 23, 24, 25, 26, 27, 28, 29] (by decide +kernel) (by decide +kernel)
set_option maxRecDepth 20000 in
theorem gX5_take_X5_isArc : GoodIn wsX5_take (wsV RX5 74 RX5 yX5_isArc wsX5_isArc) := goodIn_app (goodIn_of _ (by decide +kernel)) ggX5_take_X5_isArc
theorem dX5_take_0 : decode cX5_take 0 = .ok (.aload_n 0, 1) := by decide +kernel
theorem dX5_take_1 : decode cX5_take 1 = .ok (.iconst 0, 1) := by decide +kernel
theorem dX5_take_2 : decode cX5_take 2 = .ok (.putfield 1, 3) := by decide +kernel
theorem dX5_take_5 : decode cX5_take 5 = .ok (.aload_n 0, 1) := by decide +kernel
theorem dX5_take_6 : decode cX5_take 6 = .ok (.iload_n 1, 1) := by decide +kernel
theorem dX5_take_7 : decode cX5_take 7 = .ok (.invokevirtual 74, 3) := by decide +kernel
theorem dX5_take_10 : decode cX5_take 10 = .ok (.ifCond .ne 6, 3) := by decide +kernel
theorem dX5_take_13 : decode cX5_take 13 = .ok (.bipush (-2), 2) := by decide +kernel
theorem dX5_take_15 : decode cX5_take 15 = .ok (.ireturn, 1) := by decide +kernel
theorem dX5_take_16 : decode cX5_take 16 = .ok (.aload_n 0, 1) := by decide +kernel
theorem dX5_take_17 : decode cX5_take 17 = .ok (.getfield 20, 3) := by decide +kernel
theorem dX5_take_20 : decode cX5_take 20 = .ok (.iload_n 1, 1) := by decide +kernel
theorem dX5_take_21 : decode cX5_take 21 = .ok (.iaload, 1) := by decide +kernel
theorem dX5_take_22 : decode cX5_take 22 = .ok (.iconst 2, 1) := by decide +kernel
theorem dX5_take_23 : decode cX5_take 23 = .ok (.if_icmp .ne 6, 3) := by decide +kernel
theorem dX5_take_26 : decode cX5_take 26 = .ok (.bipush (-5), 2) := by decide +kernel
theorem dX5_take_28 : decode cX5_take 28 = .ok (.ireturn, 1) := by decide +kernel
theorem dX5_take_29 : decode cX5_take 29 = .ok (.aload_n 0, 1) := by decide +kernel
theorem dX5_take_30 : decode cX5_take 30 = .ok (.getfield 23, 3) := by decide +kernel
theorem dX5_take_33 : decode cX5_take 33 = .ok (.iload_n 1, 1) := by decide +kernel
theorem dX5_take_34 : decode cX5_take 34 = .ok (.baload, 1) := by decide +kernel
theorem dX5_take_35 : decode cX5_take 35 = .ok (.ifCond .eq 7, 3) := by decide +kernel
theorem dX5_take_38 : decode cX5_take 38 = .ok (.iconst 0, 1) := by decide +kernel
theorem dX5_take_39 : decode cX5_take 39 = .ok (.goto 4, 3) := by decide +kernel
theorem dX5_take_42 : decode cX5_take 42 = .ok (.iconst 1, 1) := by decide +kernel
theorem dX5_take_43 : decode cX5_take 43 = .ok (.istore_n 2, 1) := by decide +kernel
theorem dX5_take_44 : decode cX5_take 44 = .ok (.aload_n 0, 1) := by decide +kernel
theorem dX5_take_45 : decode cX5_take 45 = .ok (.getfield 23, 3) := by decide +kernel
theorem dX5_take_48 : decode cX5_take 48 = .ok (.iload_n 1, 1) := by decide +kernel
theorem dX5_take_49 : decode cX5_take 49 = .ok (.iconst 1, 1) := by decide +kernel
theorem dX5_take_50 : decode cX5_take 50 = .ok (.bastore, 1) := by decide +kernel
theorem dX5_take_51 : decode cX5_take 51 = .ok (.iload_n 2, 1) := by decide +kernel
theorem dX5_take_52 : decode cX5_take 52 = .ok (.ireturn, 1) := by decide +kernel
set_option maxRecDepth 20000 in
theorem ggX5_untake_X5_isArc : GoodIn wsX5_untake wsX5_isArc := goodIn_r _ [8, 9, 10, 11, 12, 13, 14, 15, 16, 17, 18, 19, 20, 21, 22, 23, 24, 25, 26, 27, 28, 29] (by decide +kernel) (by decide +kernel)
set_option maxRecDepth 20000 in
theorem gX5_untake_X5_isArc : GoodIn wsX5_untake (wsV RX5 74 RX5 yX5_isArc wsX5_isArc) := goodIn_app (goodIn_of _ (by decide +kernel)) ggX5_untake_X5_isArc
theorem dX5_untake_0 : decode cX5_untake 0 = .ok (.aload_n 0, 1) := by decide +kernel
theorem dX5_untake_1 : decode cX5_untake 1 = .ok (.iconst 0, 1) := by decide +kernel
theorem dX5_untake_2 : decode cX5_untake 2 = .ok (.putfield 1, 3) := by decide +kernel
theorem dX5_untake_5 : decode cX5_untake 5 = .ok (.aload_n 0, 1) := by decide +kernel
theorem dX5_untake_6 : decode cX5_untake 6 = .ok (.iload_n 1, 1) := by decide +kernel
theorem dX5_untake_7 : decode cX5_untake 7 = .ok (.invokevirtual 74, 3) := by decide +kernel
theorem dX5_untake_10 : decode cX5_untake 10 = .ok (.ifCond .ne 6, 3) := by decide +kernel
theorem dX5_untake_13 : decode cX5_untake 13 = .ok (.bipush (-2), 2) := by decide +kernel
theorem dX5_untake_15 : decode cX5_untake 15 = .ok (.ireturn, 1) := by decide +kernel
theorem dX5_untake_16 : decode cX5_untake 16 = .ok (.aload_n 0, 1) := by decide +kernel
theorem dX5_untake_17 : decode cX5_untake 17 = .ok (.getfield 20, 3) := by decide +kernel
theorem dX5_untake_20 : decode cX5_untake 20 = .ok (.iload_n 1, 1) := by decide +kernel
theorem dX5_untake_21 : decode cX5_untake 21 = .ok (.iaload, 1) := by decide +kernel
theorem dX5_untake_22 : decode cX5_untake 22 = .ok (.iconst 2, 1) := by decide +kernel
theorem dX5_untake_23 : decode cX5_untake 23 = .ok (.if_icmp .ne 6, 3) := by decide +kernel
theorem dX5_untake_26 : decode cX5_untake 26 = .ok (.bipush (-5), 2) := by decide +kernel
theorem dX5_untake_28 : decode cX5_untake 28 = .ok (.ireturn, 1) := by decide +kernel
theorem dX5_untake_29 : decode cX5_untake 29 = .ok (.aload_n 0, 1) := by decide +kernel
theorem dX5_untake_30 : decode cX5_untake 30 = .ok (.getfield 23, 3) := by decide +kernel
theorem dX5_untake_33 : decode cX5_untake 33 = .ok (.iload_n 1, 1) := by decide +kernel
theorem dX5_untake_34 : decode cX5_untake 34 = .ok (.baload, 1) := by decide +kernel
theorem dX5_untake_35 : decode cX5_untake 35 = .ok (.ifCond .eq 7, 3) := by decide +kernel
theorem dX5_untake_38 : decode cX5_untake 38 = .ok (.iconst 1, 1) := by decide +kernel
theorem dX5_untake_39 : decode cX5_untake 39 = .ok (.goto 4, 3) := by decide +kernel
theorem dX5_untake_42 : decode cX5_untake 42 = .ok (.iconst 0, 1) := by decide +kernel
theorem dX5_untake_43 : decode cX5_untake 43 = .ok (.istore_n 2, 1) := by decide +kernel
theorem dX5_untake_44 : decode cX5_untake 44 = .ok (.aload_n 0, 1) := by decide +kernel
theorem dX5_untake_45 : decode cX5_untake 45 = .ok (.getfield 23, 3) := by decide +kernel
theorem dX5_untake_48 : decode cX5_untake 48 = .ok (.iload_n 1, 1) := by decide +kernel
theorem dX5_untake_49 : decode cX5_untake 49 = .ok (.iconst 0, 1) := by decide +kernel
theorem dX5_untake_50 : decode cX5_untake 50 = .ok (.bastore, 1) := by decide +kernel
theorem dX5_untake_51 : decode cX5_untake 51 = .ok (.iload_n 2, 1) := by decide +kernel
theorem dX5_untake_52 : decode cX5_untake 52 = .ok (.ireturn, 1) := by decide +kernel
theorem dX5_stale_0 : decode cX5_stale 0 = .ok (.iconst 0, 1) := by decide +kernel
theorem dX5_stale_1 : decode cX5_stale 1 = .ok (.istore_n 1, 1) := by decide +kernel
theorem dX5_stale_2 : decode cX5_stale 2 = .ok (.iload_n 1, 1) := by decide +kernel
theorem dX5_stale_3 : decode cX5_stale 3 = .ok (.bipush 8, 2) := by decide +kernel
theorem dX5_stale_5 : decode cX5_stale 5 = .ok (.if_icmp .ge 16, 3) := by decide +kernel
theorem dX5_stale_8 : decode cX5_stale 8 = .ok (.aload_n 0, 1) := by decide +kernel
theorem dX5_stale_9 : decode cX5_stale 9 = .ok (.getfield 33, 3) := by decide +kernel
theorem dX5_stale_12 : decode cX5_stale 12 = .ok (.iload_n 1, 1) := by decide +kernel
theorem dX5_stale_13 : decode cX5_stale 13 = .ok (.iconst 1, 1) := by decide +kernel
theorem dX5_stale_14 : decode cX5_stale 14 = .ok (.bastore, 1) := by decide +kernel
theorem dX5_stale_15 : decode cX5_stale 15 = .ok (.iinc 1 1, 3) := by decide +kernel
theorem dX5_stale_18 : decode cX5_stale 18 = .ok (.goto (-16), 3) := by decide +kernel
theorem dX5_stale_21 : decode cX5_stale 21 = .ok (.return_, 1) := by decide +kernel
set_option maxRecDepth 20000 in
theorem ggX5_merge_X5_stale : GoodIn wsX5_merge wsX5_stale := goodIn_r _ [9, 10, 11, 12, 13, 14, 15, 16, 17, 18, 19, 20, 21, 22, 23, 24, 25, 26, 27, 28, 29, 30] (by decide +kernel) (by decide +kernel)
set_option maxRecDepth 20000 in
theorem gX5_merge_X5_stale : GoodIn wsX5_merge (wsV RX5 77 RX5 yX5_stale wsX5_stale) := goodIn_app (goodIn_of _ (by decide +kernel)) ggX5_merge_X5_stale
theorem dX5_merge_0 : decode cX5_merge 0 = .ok (.aload_n 0, 1) := by decide +kernel
theorem dX5_merge_1 : decode cX5_merge 1 = .ok (.iconst 0, 1) := by decide +kernel
theorem dX5_merge_2 : decode cX5_merge 2 = .ok (.putfield 1, 3) := by decide +kernel
theorem dX5_merge_5 : decode cX5_merge 5 = .ok (.iconst 0, 1) := by decide +kernel
theorem dX5_merge_6 : decode cX5_merge 6 = .ok (.istore_n 1, 1) := by decide +kernel
theorem dX5_merge_7 : decode cX5_merge 7 = .ok (.iconst 0, 1) := by decide +kernel
theorem dX5_merge_8 : decode cX5_merge 8 = .ok (.istore_n 2, 1) := by decide +kernel
theorem dX5_merge_9 : decode cX5_merge 9 = .ok (.iload_n 2, 1) := by decide +kernel
theorem dX5_merge_10 : decode cX5_merge 10 = .ok (.aload_n 0, 1) := by decide +kernel
theorem dX5_merge_11 : decode cX5_merge 11 = .ok (.getfield 67, 3) := by decide +kernel
theorem dX5_merge_14 : decode cX5_merge 14 = .ok (.if_icmp .ge 59, 3) := by decide +kernel
theorem dX5_merge_17 : decode cX5_merge 17 = .ok (.aload_n 0, 1) := by decide +kernel
theorem dX5_merge_18 : decode cX5_merge 18 = .ok (.getfield 20, 3) := by decide +kernel
theorem dX5_merge_21 : decode cX5_merge 21 = .ok (.iload_n 2, 1) := by decide +kernel
theorem dX5_merge_22 : decode cX5_merge 22 = .ok (.iaload, 1) := by decide +kernel
theorem dX5_merge_23 : decode cX5_merge 23 = .ok (.istore_n 3, 1) := by decide +kernel
theorem dX5_merge_24 : decode cX5_merge 24 = .ok (.aload_n 0, 1) := by decide +kernel
theorem dX5_merge_25 : decode cX5_merge 25 = .ok (.getfield 20, 3) := by decide +kernel
theorem dX5_merge_28 : decode cX5_merge 28 = .ok (.iload_n 2, 1) := by decide +kernel
theorem dX5_merge_29 : decode cX5_merge 29 = .ok (.iload_n 3, 1) := by decide +kernel
theorem dX5_merge_30 : decode cX5_merge 30 = .ok (.iconst 2, 1) := by decide +kernel
theorem dX5_merge_31 : decode cX5_merge 31 = .ok (.if_icmp .eq 12, 3) := by decide +kernel
theorem dX5_merge_34 : decode cX5_merge 34 = .ok (.aload_n 0, 1) := by decide +kernel
theorem dX5_merge_35 : decode cX5_merge 35 = .ok (.getfield 23, 3) := by decide +kernel
theorem dX5_merge_38 : decode cX5_merge 38 = .ok (.iload_n 2, 1) := by decide +kernel
theorem dX5_merge_39 : decode cX5_merge 39 = .ok (.baload, 1) := by decide +kernel
theorem dX5_merge_40 : decode cX5_merge 40 = .ok (.ifCond .eq 7, 3) := by decide +kernel
theorem dX5_merge_43 : decode cX5_merge 43 = .ok (.iconst 2, 1) := by decide +kernel
theorem dX5_merge_44 : decode cX5_merge 44 = .ok (.goto 4, 3) := by decide +kernel
theorem dX5_merge_47 : decode cX5_merge 47 = .ok (.iconst 1, 1) := by decide +kernel
theorem dX5_merge_48 : decode cX5_merge 48 = .ok (.iastore, 1) := by decide +kernel
theorem dX5_merge_49 : decode cX5_merge 49 = .ok (.iload_n 1, 1) := by decide +kernel
theorem dX5_merge_50 : decode cX5_merge 50 = .ok (.aload_n 0, 1) := by decide +kernel
theorem dX5_merge_51 : decode cX5_merge 51 = .ok (.getfield 20, 3) := by decide +kernel
theorem dX5_merge_54 : decode cX5_merge 54 = .ok (.iload_n 2, 1) := by decide +kernel
theorem dX5_merge_55 : decode cX5_merge 55 = .ok (.iaload, 1) := by decide +kernel
theorem dX5_merge_56 : decode cX5_merge 56 = .ok (.iload_n 3, 1) := by decide +kernel
theorem dX5_merge_57 : decode cX5_merge 57 = .ok (.if_icmp .eq 7, 3) := by decide +kernel
theorem dX5_merge_60 : decode cX5_merge 60 = .ok (.iconst 1, 1) := by decide +kernel
theorem dX5_merge_61 : decode cX5_merge 61 = .ok (.goto 4, 3) := by decide +kernel
theorem dX5_merge_64 : decode cX5_merge 64 = .ok (.iconst 0, 1) := by decide +kernel
theorem dX5_merge_65 : decode cX5_merge 65 = .ok (.iadd, 1) := by decide +kernel
theorem dX5_merge_66 : decode cX5_merge 66 = .ok (.istore_n 1, 1) := by decide +kernel
theorem dX5_merge_67 : decode cX5_merge 67 = .ok (.iinc 2 1, 3) := by decide +kernel
theorem dX5_merge_70 : decode cX5_merge 70 = .ok (.goto (-61), 3) := by decide +kernel
theorem dX5_merge_73 : decode cX5_merge 73 = .ok (.aload_n 0, 1) := by decide +kernel
theorem dX5_merge_74 : decode cX5_merge 74 = .ok (.invokevirtual 77, 3) := by decide +kernel
theorem dX5_merge_77 : decode cX5_merge 77 = .ok (.iload_n 1, 1) := by decide +kernel
theorem dX5_merge_78 : decode cX5_merge 78 = .ok (.ireturn, 1) := by decide +kernel
set_option maxRecDepth 20000 in
theorem ggX5_pack_X5_merge : GoodIn wsX5_pack wsX5_merge := goodIn_r _ [13, 1, 2, 4, 7, 14, 15, 16, 12, 17, 18, 19, 20, 21, 22, 23, 24, 25, 26, 27, 28, 29, 30, 31, 32, 33, 34, 35, 36, 37, 38] (by decide +kernel) (by decide +kernel)
set_option maxRecDepth 20000 in
theorem gX5_pack_X5_merge : GoodIn wsX5_pack (wsV RX5 80 RX5 yX5_merge wsX5_merge) := goodIn_app (goodIn_of _ (by decide +kernel)) ggX5_pack_X5_merge
theorem dX5_pack_0 : decode cX5_pack 0 = .ok (.aload_n 0, 1) := by decide +kernel
theorem dX5_pack_1 : decode cX5_pack 1 = .ok (.iconst 0, 1) := by decide +kernel
theorem dX5_pack_2 : decode cX5_pack 2 = .ok (.putfield 1, 3) := by decide +kernel
theorem dX5_pack_5 : decode cX5_pack 5 = .ok (.aload_n 0, 1) := by decide +kernel
theorem dX5_pack_6 : decode cX5_pack 6 = .ok (.invokevirtual 80, 3) := by decide +kernel
theorem dX5_pack_9 : decode cX5_pack 9 = .ok (.pop, 1) := by decide +kernel
theorem dX5_pack_10 : decode cX5_pack 10 = .ok (.iconst 0, 1) := by decide +kernel
theorem dX5_pack_11 : decode cX5_pack 11 = .ok (.istore_n 1, 1) := by decide +kernel
theorem dX5_pack_12 : decode cX5_pack 12 = .ok (.iconst 0, 1) := by decide +kernel
theorem dX5_pack_13 : decode cX5_pack 13 = .ok (.istore_n 2, 1) := by decide +kernel
theorem dX5_pack_14 : decode cX5_pack 14 = .ok (.iload_n 2, 1) := by decide +kernel
theorem dX5_pack_15 : decode cX5_pack 15 = .ok (.aload_n 0, 1) := by decide +kernel
theorem dX5_pack_16 : decode cX5_pack 16 = .ok (.getfield 67, 3) := by decide +kernel
theorem dX5_pack_19 : decode cX5_pack 19 = .ok (.if_icmp .ge 74, 3) := by decide +kernel
theorem dX5_pack_22 : decode cX5_pack 22 = .ok (.aload_n 0, 1) := by decide +kernel
theorem dX5_pack_23 : decode cX5_pack 23 = .ok (.getfield 27, 3) := by decide +kernel
theorem dX5_pack_26 : decode cX5_pack 26 = .ok (.iload_n 2, 1) := by decide +kernel
theorem dX5_pack_27 : decode cX5_pack 27 = .ok (.iconst (-1), 1) := by decide +kernel
theorem dX5_pack_28 : decode cX5_pack 28 = .ok (.iastore, 1) := by decide +kernel
theorem dX5_pack_29 : decode cX5_pack 29 = .ok (.aload_n 0, 1) := by decide +kernel
theorem dX5_pack_30 : decode cX5_pack 30 = .ok (.getfield 20, 3) := by decide +kernel
theorem dX5_pack_33 : decode cX5_pack 33 = .ok (.iload_n 2, 1) := by decide +kernel
theorem dX5_pack_34 : decode cX5_pack 34 = .ok (.iaload, 1) := by decide +kernel
theorem dX5_pack_35 : decode cX5_pack 35 = .ok (.iconst 2, 1) := by decide +kernel
theorem dX5_pack_36 : decode cX5_pack 36 = .ok (.if_icmp .eq 51, 3) := by decide +kernel
theorem dX5_pack_39 : decode cX5_pack 39 = .ok (.aload_n 0, 1) := by decide +kernel
theorem dX5_pack_40 : decode cX5_pack 40 = .ok (.getfield 27, 3) := by decide +kernel
theorem dX5_pack_43 : decode cX5_pack 43 = .ok (.iload_n 2, 1) := by decide +kernel
theorem dX5_pack_44 : decode cX5_pack 44 = .ok (.iload_n 1, 1) := by decide +kernel
theorem dX5_pack_45 : decode cX5_pack 45 = .ok (.iastore, 1) := by decide +kernel
theorem dX5_pack_46 : decode cX5_pack 46 = .ok (.aload_n 0, 1) := by decide +kernel
theorem dX5_pack_47 : decode cX5_pack 47 = .ok (.getfield 13, 3) := by decide +kernel
theorem dX5_pack_50 : decode cX5_pack 50 = .ok (.iload_n 1, 1) := by decide +kernel
theorem dX5_pack_51 : decode cX5_pack 51 = .ok (.aload_n 0, 1) := by decide +kernel
theorem dX5_pack_52 : decode cX5_pack 52 = .ok (.getfield 13, 3) := by decide +kernel
theorem dX5_pack_55 : decode cX5_pack 55 = .ok (.iload_n 2, 1) := by decide +kernel
theorem dX5_pack_56 : decode cX5_pack 56 = .ok (.iaload, 1) := by decide +kernel
theorem dX5_pack_57 : decode cX5_pack 57 = .ok (.iastore, 1) := by decide +kernel
theorem dX5_pack_58 : decode cX5_pack 58 = .ok (.aload_n 0, 1) := by decide +kernel
theorem dX5_pack_59 : decode cX5_pack 59 = .ok (.getfield 17, 3) := by decide +kernel
theorem dX5_pack_62 : decode cX5_pack 62 = .ok (.iload_n 1, 1) := by decide +kernel
theorem dX5_pack_63 : decode cX5_pack 63 = .ok (.aload_n 0, 1) := by decide +kernel
theorem dX5_pack_64 : decode cX5_pack 64 = .ok (.getfield 17, 3) := by decide +kernel
theorem dX5_pack_67 : decode cX5_pack 67 = .ok (.iload_n 2, 1) := by decide +kernel
theorem dX5_pack_68 : decode cX5_pack 68 = .ok (.iaload, 1) := by decide +kernel
theorem dX5_pack_69 : decode cX5_pack 69 = .ok (.iastore, 1) := by decide +kernel
theorem dX5_pack_70 : decode cX5_pack 70 = .ok (.aload_n 0, 1) := by decide +kernel
theorem dX5_pack_71 : decode cX5_pack 71 = .ok (.getfield 20, 3) := by decide +kernel
theorem dX5_pack_74 : decode cX5_pack 74 = .ok (.iload_n 1, 1) := by decide +kernel
theorem dX5_pack_75 : decode cX5_pack 75 = .ok (.iconst 1, 1) := by decide +kernel
theorem dX5_pack_76 : decode cX5_pack 76 = .ok (.iastore, 1) := by decide +kernel
theorem dX5_pack_77 : decode cX5_pack 77 = .ok (.aload_n 0, 1) := by decide +kernel
theorem dX5_pack_78 : decode cX5_pack 78 = .ok (.getfield 23, 3) := by decide +kernel
theorem dX5_pack_81 : decode cX5_pack 81 = .ok (.iload_n 1, 1) := by decide +kernel
theorem dX5_pack_82 : decode cX5_pack 82 = .ok (.iconst 0, 1) := by decide +kernel
theorem dX5_pack_83 : decode cX5_pack 83 = .ok (.bastore, 1) := by decide +kernel
theorem dX5_pack_84 : decode cX5_pack 84 = .ok (.iinc 1 1, 3) := by decide +kernel
theorem dX5_pack_87 : decode cX5_pack 87 = .ok (.iinc 2 1, 3) := by decide +kernel
theorem dX5_pack_90 : decode cX5_pack 90 = .ok (.goto (-76), 3) := by decide +kernel
theorem dX5_pack_93 : decode cX5_pack 93 = .ok (.aload_n 0, 1) := by decide +kernel
theorem dX5_pack_94 : decode cX5_pack 94 = .ok (.aload_n 0, 1) := by decide +kernel
theorem dX5_pack_95 : decode cX5_pack 95 = .ok (.getfield 67, 3) := by decide +kernel
theorem dX5_pack_98 : decode cX5_pack 98 = .ok (.putfield 84, 3) := by decide +kernel
theorem dX5_pack_101 : decode cX5_pack 101 = .ok (.aload_n 0, 1) := by decide +kernel
theorem dX5_pack_102 : decode cX5_pack 102 = .ok (.iload_n 1, 1) := by decide +kernel
theorem dX5_pack_103 : decode cX5_pack 103 = .ok (.putfield 67, 3) := by decide +kernel
theorem dX5_pack_106 : decode cX5_pack 106 = .ok (.iload_n 1, 1) := by decide +kernel
theorem dX5_pack_107 : decode cX5_pack 107 = .ok (.ireturn, 1) := by decide +kernel
theorem dX5_turned_0 : decode cX5_turned 0 = .ok (.aload_n 0, 1) := by decide +kernel
theorem dX5_turned_1 : decode cX5_turned 1 = .ok (.iconst 0, 1) := by decide +kernel
theorem dX5_turned_2 : decode cX5_turned 2 = .ok (.putfield 1, 3) := by decide +kernel
theorem dX5_turned_5 : decode cX5_turned 5 = .ok (.iload_n 1, 1) := by decide +kernel
theorem dX5_turned_6 : decode cX5_turned 6 = .ok (.ifCond .lt 20, 3) := by decide +kernel
theorem dX5_turned_9 : decode cX5_turned 9 = .ok (.iload_n 1, 1) := by decide +kernel
theorem dX5_turned_10 : decode cX5_turned 10 = .ok (.aload_n 0, 1) := by decide +kernel
theorem dX5_turned_11 : decode cX5_turned 11 = .ok (.getfield 84, 3) := by decide +kernel
theorem dX5_turned_14 : decode cX5_turned 14 = .ok (.if_icmp .ge 12, 3) := by decide +kernel
theorem dX5_turned_17 : decode cX5_turned 17 = .ok (.aload_n 0, 1) := by decide +kernel
theorem dX5_turned_18 : decode cX5_turned 18 = .ok (.getfield 27, 3) := by decide +kernel
theorem dX5_turned_21 : decode cX5_turned 21 = .ok (.iload_n 1, 1) := by decide +kernel
theorem dX5_turned_22 : decode cX5_turned 22 = .ok (.iaload, 1) := by decide +kernel
theorem dX5_turned_23 : decode cX5_turned 23 = .ok (.goto 5, 3) := by decide +kernel
theorem dX5_turned_26 : decode cX5_turned 26 = .ok (.bipush (-2), 2) := by decide +kernel
theorem dX5_turned_28 : decode cX5_turned 28 = .ok (.ireturn, 1) := by decide +kernel
theorem dX5_own_0 : decode cX5_own 0 = .ok (.iload_n 2, 1) := by decide +kernel
theorem dX5_own_1 : decode cX5_own 1 = .ok (.ifCond .eq 12, 3) := by decide +kernel
theorem dX5_own_4 : decode cX5_own 4 = .ok (.aload_n 0, 1) := by decide +kernel
theorem dX5_own_5 : decode cX5_own 5 = .ok (.getfield 17, 3) := by decide +kernel
theorem dX5_own_8 : decode cX5_own 8 = .ok (.iload_n 1, 1) := by decide +kernel
theorem dX5_own_9 : decode cX5_own 9 = .ok (.iaload, 1) := by decide +kernel
theorem dX5_own_10 : decode cX5_own 10 = .ok (.goto 9, 3) := by decide +kernel
theorem dX5_own_13 : decode cX5_own 13 = .ok (.aload_n 0, 1) := by decide +kernel
theorem dX5_own_14 : decode cX5_own 14 = .ok (.getfield 13, 3) := by decide +kernel
theorem dX5_own_17 : decode cX5_own 17 = .ok (.iload_n 1, 1) := by decide +kernel
theorem dX5_own_18 : decode cX5_own 18 = .ok (.iaload, 1) := by decide +kernel
theorem dX5_own_19 : decode cX5_own 19 = .ok (.ireturn, 1) := by decide +kernel
theorem dX5_other_0 : decode cX5_other 0 = .ok (.iload_n 2, 1) := by decide +kernel
theorem dX5_other_1 : decode cX5_other 1 = .ok (.ifCond .eq 12, 3) := by decide +kernel
theorem dX5_other_4 : decode cX5_other 4 = .ok (.aload_n 0, 1) := by decide +kernel
theorem dX5_other_5 : decode cX5_other 5 = .ok (.getfield 13, 3) := by decide +kernel
theorem dX5_other_8 : decode cX5_other 8 = .ok (.iload_n 1, 1) := by decide +kernel
theorem dX5_other_9 : decode cX5_other 9 = .ok (.iaload, 1) := by decide +kernel
theorem dX5_other_10 : decode cX5_other 10 = .ok (.goto 9, 3) := by decide +kernel
theorem dX5_other_13 : decode cX5_other 13 = .ok (.aload_n 0, 1) := by decide +kernel
theorem dX5_other_14 : decode cX5_other 14 = .ok (.getfield 17, 3) := by decide +kernel
theorem dX5_other_17 : decode cX5_other 17 = .ok (.iload_n 1, 1) := by decide +kernel
theorem dX5_other_18 : decode cX5_other 18 = .ok (.iaload, 1) := by decide +kernel
theorem dX5_other_19 : decode cX5_other 19 = .ok (.ireturn, 1) := by decide +kernel
set_option maxRecDepth 20000 in
theorem ggX5_isAhead_X5_other : GoodIn wsX5_isAhead wsX5_other := goodIn_r _ [6, 7, 8, 9, 10, 11, 12, 13, 14, 15, 16, 17, 18, 19, 20, 21, 22, 23, 24, 25, 26, 27, 28] (by decide +kernel) (by decide +kernel)
set_option maxRecDepth 20000 in
theorem gX5_isAhead_X5_other : GoodIn wsX5_isAhead (wsV RX5 87 RX5 yX5_other wsX5_other) := goodIn_app (goodIn_of _ (by decide +kernel)) ggX5_isAhead_X5_other
theorem dX5_isAhead_0 : decode cX5_isAhead 0 = .ok (.aload_n 0, 1) := by decide +kernel
theorem dX5_isAhead_1 : decode cX5_isAhead 1 = .ok (.getfield 20, 3) := by decide +kernel
theorem dX5_isAhead_4 : decode cX5_isAhead 4 = .ok (.iload_n 1, 1) := by decide +kernel
theorem dX5_isAhead_5 : decode cX5_isAhead 5 = .ok (.iaload, 1) := by decide +kernel
theorem dX5_isAhead_6 : decode cX5_isAhead 6 = .ok (.aload_n 0, 1) := by decide +kernel
theorem dX5_isAhead_7 : decode cX5_isAhead 7 = .ok (.getfield 20, 3) := by decide +kernel
theorem dX5_isAhead_10 : decode cX5_isAhead 10 = .ok (.iload_n 2, 1) := by decide +kernel
theorem dX5_isAhead_11 : decode cX5_isAhead 11 = .ok (.iaload, 1) := by decide +kernel
theorem dX5_isAhead_12 : decode cX5_isAhead 12 = .ok (.if_icmp .eq 19, 3) := by decide +kernel
theorem dX5_isAhead_15 : decode cX5_isAhead 15 = .ok (.aload_n 0, 1) := by decide +kernel
theorem dX5_isAhead_16 : decode cX5_isAhead 16 = .ok (.getfield 20, 3) := by decide +kernel
theorem dX5_isAhead_19 : decode cX5_isAhead 19 = .ok (.iload_n 1, 1) := by decide +kernel
theorem dX5_isAhead_20 : decode cX5_isAhead 20 = .ok (.iaload, 1) := by decide +kernel
theorem dX5_isAhead_21 : decode cX5_isAhead 21 = .ok (.iconst 1, 1) := by decide +kernel
theorem dX5_isAhead_22 : decode cX5_isAhead 22 = .ok (.if_icmp .ne 7, 3) := by decide +kernel
theorem dX5_isAhead_25 : decode cX5_isAhead 25 = .ok (.iconst 1, 1) := by decide +kernel
theorem dX5_isAhead_26 : decode cX5_isAhead 26 = .ok (.goto 4, 3) := by decide +kernel
theorem dX5_isAhead_29 : decode cX5_isAhead 29 = .ok (.iconst 0, 1) := by decide +kernel
theorem dX5_isAhead_30 : decode cX5_isAhead 30 = .ok (.ireturn, 1) := by decide +kernel
theorem dX5_isAhead_31 : decode cX5_isAhead 31 = .ok (.aload_n 0, 1) := by decide +kernel
theorem dX5_isAhead_32 : decode cX5_isAhead 32 = .ok (.getfield 20, 3) := by decide +kernel
theorem dX5_isAhead_35 : decode cX5_isAhead 35 = .ok (.iload_n 1, 1) := by decide +kernel
theorem dX5_isAhead_36 : decode cX5_isAhead 36 = .ok (.iaload, 1) := by decide +kernel
theorem dX5_isAhead_37 : decode cX5_isAhead 37 = .ok (.iconst 1, 1) := by decide +kernel
theorem dX5_isAhead_38 : decode cX5_isAhead 38 = .ok (.if_icmp .ne 39, 3) := by decide +kernel
theorem dX5_isAhead_41 : decode cX5_isAhead 41 = .ok (.aload_n 0, 1) := by decide +kernel
theorem dX5_isAhead_42 : decode cX5_isAhead 42 = .ok (.iload_n 1, 1) := by decide +kernel
theorem dX5_isAhead_43 : decode cX5_isAhead 43 = .ok (.iload_n 3, 1) := by decide +kernel
theorem dX5_isAhead_44 : decode cX5_isAhead 44 = .ok (.invokevirtual 87, 3) := by decide +kernel
theorem dX5_isAhead_47 : decode cX5_isAhead 47 = .ok (.aload_n 0, 1) := by decide +kernel
theorem dX5_isAhead_48 : decode cX5_isAhead 48 = .ok (.iload_n 2, 1) := by decide +kernel
theorem dX5_isAhead_49 : decode cX5_isAhead 49 = .ok (.iload_n 3, 1) := by decide +kernel
theorem dX5_isAhead_50 : decode cX5_isAhead 50 = .ok (.invokevirtual 87, 3) := by decide +kernel
theorem dX5_isAhead_53 : decode cX5_isAhead 53 = .ok (.if_icmp .eq 24, 3) := by decide +kernel
theorem dX5_isAhead_56 : decode cX5_isAhead 56 = .ok (.aload_n 0, 1) := by decide +kernel
theorem dX5_isAhead_57 : decode cX5_isAhead 57 = .ok (.iload_n 1, 1) := by decide +kernel
theorem dX5_isAhead_58 : decode cX5_isAhead 58 = .ok (.iload_n 3, 1) := by decide +kernel
theorem dX5_isAhead_59 : decode cX5_isAhead 59 = .ok (.invokevirtual 87, 3) := by decide +kernel
theorem dX5_isAhead_62 : decode cX5_isAhead 62 = .ok (.aload_n 0, 1) := by decide +kernel
theorem dX5_isAhead_63 : decode cX5_isAhead 63 = .ok (.iload_n 2, 1) := by decide +kernel
theorem dX5_isAhead_64 : decode cX5_isAhead 64 = .ok (.iload_n 3, 1) := by decide +kernel
theorem dX5_isAhead_65 : decode cX5_isAhead 65 = .ok (.invokevirtual 87, 3) := by decide +kernel
theorem dX5_isAhead_68 : decode cX5_isAhead 68 = .ok (.if_icmp .ge 7, 3) := by decide +kernel
theorem dX5_isAhead_71 : decode cX5_isAhead 71 = .ok (.iconst 1, 1) := by decide +kernel
theorem dX5_isAhead_72 : decode cX5_isAhead 72 = .ok (.goto 4, 3) := by decide +kernel
theorem dX5_isAhead_75 : decode cX5_isAhead 75 = .ok (.iconst 0, 1) := by decide +kernel
theorem dX5_isAhead_76 : decode cX5_isAhead 76 = .ok (.ireturn, 1) := by decide +kernel
theorem dX5_isAhead_77 : decode cX5_isAhead 77 = .ok (.iload_n 1, 1) := by decide +kernel
theorem dX5_isAhead_78 : decode cX5_isAhead 78 = .ok (.iload_n 2, 1) := by decide +kernel
theorem dX5_isAhead_79 : decode cX5_isAhead 79 = .ok (.if_icmp .ge 7, 3) := by decide +kernel
theorem dX5_isAhead_82 : decode cX5_isAhead 82 = .ok (.iconst 1, 1) := by decide +kernel
theorem dX5_isAhead_83 : decode cX5_isAhead 83 = .ok (.goto 4, 3) := by decide +kernel
theorem dX5_isAhead_86 : decode cX5_isAhead 86 = .ok (.iconst 0, 1) := by decide +kernel
theorem dX5_isAhead_87 : decode cX5_isAhead 87 = .ok (.ireturn, 1) := by decide +kernel
set_option maxRecDepth 20000 in
theorem ggX5_isOf_X5_own : GoodIn wsX5_isOf wsX5_own := goodIn_r _ [7, 8, 9, 10, 11, 12, 13, 14, 15, 16, 17, 18, 19, 20, 21, 22, 23, 24, 25, 26, 27, 28, 29] (by decide +kernel) (by decide +kernel)
set_option maxRecDepth 20000 in
theorem gX5_isOf_X5_own : GoodIn wsX5_isOf (wsV RX5 91 RX5 yX5_own wsX5_own) := goodIn_app (goodIn_of _ (by decide +kernel)) ggX5_isOf_X5_own
theorem dX5_isOf_0 : decode cX5_isOf 0 = .ok (.aload_n 0, 1) := by decide +kernel
theorem dX5_isOf_1 : decode cX5_isOf 1 = .ok (.iload_n 1, 1) := by decide +kernel
theorem dX5_isOf_2 : decode cX5_isOf 2 = .ok (.iload_n 3, 1) := by decide +kernel
theorem dX5_isOf_3 : decode cX5_isOf 3 = .ok (.invokevirtual 91, 3) := by decide +kernel
theorem dX5_isOf_6 : decode cX5_isOf 6 = .ok (.iload_n 2, 1) := by decide +kernel
theorem dX5_isOf_7 : decode cX5_isOf 7 = .ok (.if_icmp .ne 44, 3) := by decide +kernel
theorem dX5_isOf_10 : decode cX5_isOf 10 = .ok (.iload 4, 2) := by decide +kernel
theorem dX5_isOf_12 : decode cX5_isOf 12 = .ok (.ifCond .eq 25, 3) := by decide +kernel
theorem dX5_isOf_15 : decode cX5_isOf 15 = .ok (.aload_n 0, 1) := by decide +kernel
theorem dX5_isOf_16 : decode cX5_isOf 16 = .ok (.getfield 20, 3) := by decide +kernel
theorem dX5_isOf_19 : decode cX5_isOf 19 = .ok (.iload_n 1, 1) := by decide +kernel
theorem dX5_isOf_20 : decode cX5_isOf 20 = .ok (.iaload, 1) := by decide +kernel
theorem dX5_isOf_21 : decode cX5_isOf 21 = .ok (.iconst 2, 1) := by decide +kernel
theorem dX5_isOf_22 : decode cX5_isOf 22 = .ok (.if_icmp .eq 29, 3) := by decide +kernel
theorem dX5_isOf_25 : decode cX5_isOf 25 = .ok (.aload_n 0, 1) := by decide +kernel
theorem dX5_isOf_26 : decode cX5_isOf 26 = .ok (.getfield 23, 3) := by decide +kernel
theorem dX5_isOf_29 : decode cX5_isOf 29 = .ok (.iload_n 1, 1) := by decide +kernel
theorem dX5_isOf_30 : decode cX5_isOf 30 = .ok (.baload, 1) := by decide +kernel
theorem dX5_isOf_31 : decode cX5_isOf 31 = .ok (.ifCond .ne 20, 3) := by decide +kernel
theorem dX5_isOf_34 : decode cX5_isOf 34 = .ok (.goto 13, 3) := by decide +kernel
theorem dX5_isOf_37 : decode cX5_isOf 37 = .ok (.aload_n 0, 1) := by decide +kernel
theorem dX5_isOf_38 : decode cX5_isOf 38 = .ok (.getfield 20, 3) := by decide +kernel
theorem dX5_isOf_41 : decode cX5_isOf 41 = .ok (.iload_n 1, 1) := by decide +kernel
theorem dX5_isOf_42 : decode cX5_isOf 42 = .ok (.iaload, 1) := by decide +kernel
theorem dX5_isOf_43 : decode cX5_isOf 43 = .ok (.iconst 1, 1) := by decide +kernel
theorem dX5_isOf_44 : decode cX5_isOf 44 = .ok (.if_icmp .ne 7, 3) := by decide +kernel
theorem dX5_isOf_47 : decode cX5_isOf 47 = .ok (.iconst 1, 1) := by decide +kernel
theorem dX5_isOf_48 : decode cX5_isOf 48 = .ok (.goto 4, 3) := by decide +kernel
theorem dX5_isOf_51 : decode cX5_isOf 51 = .ok (.iconst 0, 1) := by decide +kernel
theorem dX5_isOf_52 : decode cX5_isOf 52 = .ok (.ireturn, 1) := by decide +kernel
set_option maxRecDepth 20000 in
theorem ggX5_place_X5_isOf : GoodIn wsX5_place wsX5_isOf := goodIn_r _ [6, 7, 8, 9, 10, 11, 5, 12, 13, 14, 23, 24, 25, 26, 27, 28, 29, 30, 31, 32, 33, 34, 35, 36, 37, 38, 39, 40, 41, 42] (by decide +kernel) (by decide +kernel)
set_option maxRecDepth 20000 in
theorem gX5_place_X5_isOf : GoodIn wsX5_place (wsV RX5 94 RX5 yX5_isOf wsX5_isOf) := goodIn_app (goodIn_of _ (by decide +kernel)) ggX5_place_X5_isOf
set_option maxRecDepth 20000 in
theorem ggX5_place_X5_isAhead : GoodIn wsX5_place wsX5_isAhead := goodIn_r _ [18, 7, 19, 20, 21, 5, 22, 14, 13, 23, 24, 25, 26, 27, 28, 29, 30, 31, 32, 33, 34, 35, 36, 37, 38, 39, 40, 41, 42] (by decide +kernel) (by decide +kernel)
set_option maxRecDepth 20000 in
theorem gX5_place_X5_isAhead : GoodIn wsX5_place (wsV RX5 98 RX5 yX5_isAhead wsX5_isAhead) := goodIn_app (goodIn_of _ (by decide +kernel)) ggX5_place_X5_isAhead
theorem dX5_place_0 : decode cX5_place 0 = .ok (.iconst 0, 1) := by decide +kernel
theorem dX5_place_1 : decode cX5_place 1 = .ok (.istore 5, 2) := by decide +kernel
theorem dX5_place_3 : decode cX5_place 3 = .ok (.iload 5, 2) := by decide +kernel
theorem dX5_place_5 : decode cX5_place 5 = .ok (.aload_n 0, 1) := by decide +kernel
theorem dX5_place_6 : decode cX5_place 6 = .ok (.getfield 67, 3) := by decide +kernel
theorem dX5_place_9 : decode cX5_place 9 = .ok (.if_icmp .ge 89, 3) := by decide +kernel
theorem dX5_place_12 : decode cX5_place 12 = .ok (.aload_n 0, 1) := by decide +kernel
theorem dX5_place_13 : decode cX5_place 13 = .ok (.iload 5, 2) := by decide +kernel
theorem dX5_place_15 : decode cX5_place 15 = .ok (.iload_n 1, 1) := by decide +kernel
theorem dX5_place_16 : decode cX5_place 16 = .ok (.iload_n 2, 1) := by decide +kernel
theorem dX5_place_17 : decode cX5_place 17 = .ok (.iload_n 3, 1) := by decide +kernel
theorem dX5_place_18 : decode cX5_place 18 = .ok (.invokevirtual 94, 3) := by decide +kernel
theorem dX5_place_21 : decode cX5_place 21 = .ok (.ifCond .ne 6, 3) := by decide +kernel
theorem dX5_place_24 : decode cX5_place 24 = .ok (.goto 68, 3) := by decide +kernel
theorem dX5_place_27 : decode cX5_place 27 = .ok (.iconst 0, 1) := by decide +kernel
theorem dX5_place_28 : decode cX5_place 28 = .ok (.istore 6, 2) := by decide +kernel
theorem dX5_place_30 : decode cX5_place 30 = .ok (.iconst 0, 1) := by decide +kernel
theorem dX5_place_31 : decode cX5_place 31 = .ok (.istore 7, 2) := by decide +kernel
theorem dX5_place_33 : decode cX5_place 33 = .ok (.iload 7, 2) := by decide +kernel
theorem dX5_place_35 : decode cX5_place 35 = .ok (.aload_n 0, 1) := by decide +kernel
theorem dX5_place_36 : decode cX5_place 36 = .ok (.getfield 67, 3) := by decide +kernel
theorem dX5_place_39 : decode cX5_place 39 = .ok (.if_icmp .ge 43, 3) := by decide +kernel
theorem dX5_place_42 : decode cX5_place 42 = .ok (.iload 6, 2) := by decide +kernel
theorem dX5_place_44 : decode cX5_place 44 = .ok (.aload_n 0, 1) := by decide +kernel
theorem dX5_place_45 : decode cX5_place 45 = .ok (.iload 7, 2) := by decide +kernel
theorem dX5_place_47 : decode cX5_place 47 = .ok (.iload_n 1, 1) := by decide +kernel
theorem dX5_place_48 : decode cX5_place 48 = .ok (.iload_n 2, 1) := by decide +kernel
theorem dX5_place_49 : decode cX5_place 49 = .ok (.iload_n 3, 1) := by decide +kernel
theorem dX5_place_50 : decode cX5_place 50 = .ok (.invokevirtual 94, 3) := by decide +kernel
theorem dX5_place_53 : decode cX5_place 53 = .ok (.ifCond .eq 19, 3) := by decide +kernel
theorem dX5_place_56 : decode cX5_place 56 = .ok (.aload_n 0, 1) := by decide +kernel
theorem dX5_place_57 : decode cX5_place 57 = .ok (.iload 7, 2) := by decide +kernel
theorem dX5_place_59 : decode cX5_place 59 = .ok (.iload 5, 2) := by decide +kernel
theorem dX5_place_61 : decode cX5_place 61 = .ok (.iload_n 2, 1) := by decide +kernel
theorem dX5_place_62 : decode cX5_place 62 = .ok (.invokevirtual 98, 3) := by decide +kernel
theorem dX5_place_65 : decode cX5_place 65 = .ok (.ifCond .eq 7, 3) := by decide +kernel
theorem dX5_place_68 : decode cX5_place 68 = .ok (.iconst 1, 1) := by decide +kernel
theorem dX5_place_69 : decode cX5_place 69 = .ok (.goto 4, 3) := by decide +kernel
theorem dX5_place_72 : decode cX5_place 72 = .ok (.iconst 0, 1) := by decide +kernel
theorem dX5_place_73 : decode cX5_place 73 = .ok (.iadd, 1) := by decide +kernel
theorem dX5_place_74 : decode cX5_place 74 = .ok (.istore 6, 2) := by decide +kernel
theorem dX5_place_76 : decode cX5_place 76 = .ok (.iinc 7 1, 3) := by decide +kernel
theorem dX5_place_79 : decode cX5_place 79 = .ok (.goto (-46), 3) := by decide +kernel
theorem dX5_place_82 : decode cX5_place 82 = .ok (.iload 6, 2) := by decide +kernel
theorem dX5_place_84 : decode cX5_place 84 = .ok (.iload 4, 2) := by decide +kernel
theorem dX5_place_86 : decode cX5_place 86 = .ok (.if_icmp .ne 6, 3) := by decide +kernel
theorem dX5_place_89 : decode cX5_place 89 = .ok (.iload 5, 2) := by decide +kernel
theorem dX5_place_91 : decode cX5_place 91 = .ok (.ireturn, 1) := by decide +kernel
theorem dX5_place_92 : decode cX5_place 92 = .ok (.iinc 5 1, 3) := by decide +kernel
theorem dX5_place_95 : decode cX5_place 95 = .ok (.goto (-92), 3) := by decide +kernel
theorem dX5_place_98 : decode cX5_place 98 = .ok (.iconst (-1), 1) := by decide +kernel
theorem dX5_place_99 : decode cX5_place 99 = .ok (.ireturn, 1) := by decide +kernel
set_option maxRecDepth 20000 in
theorem ggX5_inRow_X5_isNode : GoodIn wsX5_inRow wsX5_isNode := goodIn_r _ [6, 7, 33, 34, 35, 36, 37, 38, 39, 40, 41, 42, 43, 44, 45, 46, 47, 48, 49, 50, 51, 52] (by decide +kernel) (by decide +kernel)
set_option maxRecDepth 20000 in
theorem gX5_inRow_X5_isNode : GoodIn wsX5_inRow (wsV RX5 70 RX5 yX5_isNode wsX5_isNode) := goodIn_app (goodIn_of _ (by decide +kernel)) ggX5_inRow_X5_isNode
set_option maxRecDepth 20000 in
theorem ggX5_inRow_X5_place : GoodIn wsX5_inRow wsX5_place := goodIn_r _ [11, 12, 13, 14, 15, 5, 16, 17, 18, 19, 20, 21, 22, 23, 24, 25, 26, 27, 28, 29, 30, 31, 32, 33, 34, 35, 36, 37, 38, 39, 40, 41, 42, 43, 44, 45, 46, 47, 48, 49, 50, 51, 52] (by decide +kernel) (by decide +kernel)
set_option maxRecDepth 20000 in
theorem gX5_inRow_X5_place : GoodIn wsX5_inRow (wsV RX5 102 RX5 yX5_place wsX5_place) := goodIn_app (goodIn_of _ (by decide +kernel)) ggX5_inRow_X5_place
theorem dX5_inRow_0 : decode cX5_inRow 0 = .ok (.aload_n 0, 1) := by decide +kernel
theorem dX5_inRow_1 : decode cX5_inRow 1 = .ok (.iload_n 1, 1) := by decide +kernel
theorem dX5_inRow_2 : decode cX5_inRow 2 = .ok (.invokevirtual 70, 3) := by decide +kernel
theorem dX5_inRow_5 : decode cX5_inRow 5 = .ok (.ifCond .eq 18, 3) := by decide +kernel
theorem dX5_inRow_8 : decode cX5_inRow 8 = .ok (.iload_n 3, 1) := by decide +kernel
theorem dX5_inRow_9 : decode cX5_inRow 9 = .ok (.ifCond .lt 14, 3) := by decide +kernel
theorem dX5_inRow_12 : decode cX5_inRow 12 = .ok (.aload_n 0, 1) := by decide +kernel
theorem dX5_inRow_13 : decode cX5_inRow 13 = .ok (.iload_n 1, 1) := by decide +kernel
theorem dX5_inRow_14 : decode cX5_inRow 14 = .ok (.iload_n 2, 1) := by decide +kernel
theorem dX5_inRow_15 : decode cX5_inRow 15 = .ok (.iconst 0, 1) := by decide +kernel
theorem dX5_inRow_16 : decode cX5_inRow 16 = .ok (.iload_n 3, 1) := by decide +kernel
theorem dX5_inRow_17 : decode cX5_inRow 17 = .ok (.invokevirtual 102, 3) := by decide +kernel
theorem dX5_inRow_20 : decode cX5_inRow 20 = .ok (.goto 4, 3) := by decide +kernel
theorem dX5_inRow_23 : decode cX5_inRow 23 = .ok (.iconst (-1), 1) := by decide +kernel
theorem dX5_inRow_24 : decode cX5_inRow 24 = .ok (.istore 4, 2) := by decide +kernel
theorem dX5_inRow_26 : decode cX5_inRow 26 = .ok (.aload_n 0, 1) := by decide +kernel
theorem dX5_inRow_27 : decode cX5_inRow 27 = .ok (.iload 4, 2) := by decide +kernel
theorem dX5_inRow_29 : decode cX5_inRow 29 = .ok (.iconst (-1), 1) := by decide +kernel
theorem dX5_inRow_30 : decode cX5_inRow 30 = .ok (.if_icmp .ne 7, 3) := by decide +kernel
theorem dX5_inRow_33 : decode cX5_inRow 33 = .ok (.iconst 1, 1) := by decide +kernel
theorem dX5_inRow_34 : decode cX5_inRow 34 = .ok (.goto 4, 3) := by decide +kernel
theorem dX5_inRow_37 : decode cX5_inRow 37 = .ok (.iconst 0, 1) := by decide +kernel
theorem dX5_inRow_38 : decode cX5_inRow 38 = .ok (.putfield 1, 3) := by decide +kernel
theorem dX5_inRow_41 : decode cX5_inRow 41 = .ok (.iload 4, 2) := by decide +kernel
theorem dX5_inRow_43 : decode cX5_inRow 43 = .ok (.iconst (-1), 1) := by decide +kernel
theorem dX5_inRow_44 : decode cX5_inRow 44 = .ok (.if_icmp .ne 7, 3) := by decide +kernel
theorem dX5_inRow_47 : decode cX5_inRow 47 = .ok (.iconst 0, 1) := by decide +kernel
theorem dX5_inRow_48 : decode cX5_inRow 48 = .ok (.goto 5, 3) := by decide +kernel
theorem dX5_inRow_51 : decode cX5_inRow 51 = .ok (.iload 4, 2) := by decide +kernel
theorem dX5_inRow_53 : decode cX5_inRow 53 = .ok (.ireturn, 1) := by decide +kernel
set_option maxRecDepth 20000 in
theorem ggX5_out_X5_inRow : GoodIn wsX5_out wsX5_inRow := goodIn_r _ [6, 1, 7, 8, 9, 5, 10, 11, 12, 13, 14, 15, 16, 17, 18, 19, 20, 21, 22, 23, 24, 25, 26, 27, 28, 29, 30, 31, 32, 33, 34, 35, 36, 37, 38, 39, 40, 41, 42, 43, 44, 45, 46, 47, 48, 49, 50, 51, 52, 53, 54, 55, 56] (by decide +kernel) (by decide +kernel)
set_option maxRecDepth 20000 in
theorem gX5_out_X5_inRow : GoodIn wsX5_out (wsV RX5 106 RX5 yX5_inRow wsX5_inRow) := goodIn_app (goodIn_of _ (by decide +kernel)) ggX5_out_X5_inRow
theorem dX5_out_0 : decode cX5_out 0 = .ok (.aload_n 0, 1) := by decide +kernel
theorem dX5_out_1 : decode cX5_out 1 = .ok (.iconst 0, 1) := by decide +kernel
theorem dX5_out_2 : decode cX5_out 2 = .ok (.putfield 1, 3) := by decide +kernel
theorem dX5_out_5 : decode cX5_out 5 = .ok (.aload_n 0, 1) := by decide +kernel
theorem dX5_out_6 : decode cX5_out 6 = .ok (.iload_n 1, 1) := by decide +kernel
theorem dX5_out_7 : decode cX5_out 7 = .ok (.iconst 0, 1) := by decide +kernel
theorem dX5_out_8 : decode cX5_out 8 = .ok (.iload_n 2, 1) := by decide +kernel
theorem dX5_out_9 : decode cX5_out 9 = .ok (.invokevirtual 106, 3) := by decide +kernel
theorem dX5_out_12 : decode cX5_out 12 = .ok (.ireturn, 1) := by decide +kernel
set_option maxRecDepth 20000 in
theorem ggX5_in_X5_inRow : GoodIn wsX5_in wsX5_inRow := goodIn_r _ [6, 1, 7, 8, 9, 5, 10, 11, 12, 13, 14, 15, 16, 17, 18, 19, 20, 21, 22, 23, 24, 25, 26, 27, 28, 29, 30, 31, 32, 33, 34, 35, 36, 37, 38, 39, 40, 41, 42, 43, 44, 45, 46, 47, 48, 49, 50, 51, 52, 53, 54, 55, 56] (by decide +kernel) (by decide +kernel)
set_option maxRecDepth 20000 in
theorem gX5_in_X5_inRow : GoodIn wsX5_in (wsV RX5 106 RX5 yX5_inRow wsX5_inRow) := goodIn_app (goodIn_of _ (by decide +kernel)) ggX5_in_X5_inRow
theorem dX5_in_0 : decode cX5_in 0 = .ok (.aload_n 0, 1) := by decide +kernel
theorem dX5_in_1 : decode cX5_in 1 = .ok (.iconst 0, 1) := by decide +kernel
theorem dX5_in_2 : decode cX5_in 2 = .ok (.putfield 1, 3) := by decide +kernel
theorem dX5_in_5 : decode cX5_in 5 = .ok (.aload_n 0, 1) := by decide +kernel
theorem dX5_in_6 : decode cX5_in 6 = .ok (.iload_n 1, 1) := by decide +kernel
theorem dX5_in_7 : decode cX5_in 7 = .ok (.iconst 1, 1) := by decide +kernel
theorem dX5_in_8 : decode cX5_in 8 = .ok (.iload_n 2, 1) := by decide +kernel
theorem dX5_in_9 : decode cX5_in 9 = .ok (.invokevirtual 106, 3) := by decide +kernel
theorem dX5_in_12 : decode cX5_in 12 = .ok (.ireturn, 1) := by decide +kernel
set_option maxRecDepth 20000 in
theorem ggX5_offset_X5_own : GoodIn wsX5_offset wsX5_own := goodIn_r _ [9, 10, 11, 12, 13, 14, 15, 16, 17, 18, 19, 20, 21, 22, 23, 24, 25, 26, 27, 28, 29, 30, 31] (by decide +kernel) (by decide +kernel)
set_option maxRecDepth 20000 in
theorem gX5_offset_X5_own : GoodIn wsX5_offset (wsV RX5 91 RX5 yX5_own wsX5_own) := goodIn_app (goodIn_of _ (by decide +kernel)) ggX5_offset_X5_own
theorem dX5_offset_0 : decode cX5_offset 0 = .ok (.aload_n 0, 1) := by decide +kernel
theorem dX5_offset_1 : decode cX5_offset 1 = .ok (.iconst 0, 1) := by decide +kernel
theorem dX5_offset_2 : decode cX5_offset 2 = .ok (.putfield 1, 3) := by decide +kernel
theorem dX5_offset_5 : decode cX5_offset 5 = .ok (.iload_n 1, 1) := by decide +kernel
theorem dX5_offset_6 : decode cX5_offset 6 = .ok (.ifCond .lt 11, 3) := by decide +kernel
theorem dX5_offset_9 : decode cX5_offset 9 = .ok (.iload_n 1, 1) := by decide +kernel
theorem dX5_offset_10 : decode cX5_offset 10 = .ok (.aload_n 0, 1) := by decide +kernel
theorem dX5_offset_11 : decode cX5_offset 11 = .ok (.getfield 64, 3) := by decide +kernel
theorem dX5_offset_14 : decode cX5_offset 14 = .ok (.if_icmp .le 6, 3) := by decide +kernel
theorem dX5_offset_17 : decode cX5_offset 17 = .ok (.bipush (-2), 2) := by decide +kernel
theorem dX5_offset_19 : decode cX5_offset 19 = .ok (.ireturn, 1) := by decide +kernel
theorem dX5_offset_20 : decode cX5_offset 20 = .ok (.iconst 0, 1) := by decide +kernel
theorem dX5_offset_21 : decode cX5_offset 21 = .ok (.istore_n 3, 1) := by decide +kernel
theorem dX5_offset_22 : decode cX5_offset 22 = .ok (.iconst 0, 1) := by decide +kernel
theorem dX5_offset_23 : decode cX5_offset 23 = .ok (.istore 4, 2) := by decide +kernel
theorem dX5_offset_25 : decode cX5_offset 25 = .ok (.iload 4, 2) := by decide +kernel
theorem dX5_offset_27 : decode cX5_offset 27 = .ok (.aload_n 0, 1) := by decide +kernel
theorem dX5_offset_28 : decode cX5_offset 28 = .ok (.getfield 67, 3) := by decide +kernel
theorem dX5_offset_31 : decode cX5_offset 31 = .ok (.if_icmp .ge 39, 3) := by decide +kernel
theorem dX5_offset_34 : decode cX5_offset 34 = .ok (.iload_n 3, 1) := by decide +kernel
theorem dX5_offset_35 : decode cX5_offset 35 = .ok (.aload_n 0, 1) := by decide +kernel
theorem dX5_offset_36 : decode cX5_offset 36 = .ok (.getfield 20, 3) := by decide +kernel
theorem dX5_offset_39 : decode cX5_offset 39 = .ok (.iload 4, 2) := by decide +kernel
theorem dX5_offset_41 : decode cX5_offset 41 = .ok (.iaload, 1) := by decide +kernel
theorem dX5_offset_42 : decode cX5_offset 42 = .ok (.iconst 1, 1) := by decide +kernel
theorem dX5_offset_43 : decode cX5_offset 43 = .ok (.if_icmp .ne 18, 3) := by decide +kernel
theorem dX5_offset_46 : decode cX5_offset 46 = .ok (.aload_n 0, 1) := by decide +kernel
theorem dX5_offset_47 : decode cX5_offset 47 = .ok (.iload 4, 2) := by decide +kernel
theorem dX5_offset_49 : decode cX5_offset 49 = .ok (.iload_n 2, 1) := by decide +kernel
theorem dX5_offset_50 : decode cX5_offset 50 = .ok (.invokevirtual 91, 3) := by decide +kernel
theorem dX5_offset_53 : decode cX5_offset 53 = .ok (.iload_n 1, 1) := by decide +kernel
theorem dX5_offset_54 : decode cX5_offset 54 = .ok (.if_icmp .ge 7, 3) := by decide +kernel
theorem dX5_offset_57 : decode cX5_offset 57 = .ok (.iconst 1, 1) := by decide +kernel
theorem dX5_offset_58 : decode cX5_offset 58 = .ok (.goto 4, 3) := by decide +kernel
theorem dX5_offset_61 : decode cX5_offset 61 = .ok (.iconst 0, 1) := by decide +kernel
theorem dX5_offset_62 : decode cX5_offset 62 = .ok (.iadd, 1) := by decide +kernel
theorem dX5_offset_63 : decode cX5_offset 63 = .ok (.istore_n 3, 1) := by decide +kernel
theorem dX5_offset_64 : decode cX5_offset 64 = .ok (.iinc 4 1, 3) := by decide +kernel
theorem dX5_offset_67 : decode cX5_offset 67 = .ok (.goto (-42), 3) := by decide +kernel
theorem dX5_offset_70 : decode cX5_offset 70 = .ok (.iload_n 3, 1) := by decide +kernel
theorem dX5_offset_71 : decode cX5_offset 71 = .ok (.ireturn, 1) := by decide +kernel
set_option maxRecDepth 20000 in
theorem ggX5_told_X5_isArc : GoodIn wsX5_told wsX5_isArc := goodIn_r _ [10, 11, 12, 13, 14, 15, 16, 17, 18, 19, 20, 21, 22, 23, 24, 25, 26, 27, 28, 29, 30, 31] (by decide +kernel) (by decide +kernel)
set_option maxRecDepth 20000 in
theorem gX5_told_X5_isArc : GoodIn wsX5_told (wsV RX5 74 RX5 yX5_isArc wsX5_isArc) := goodIn_app (goodIn_of _ (by decide +kernel)) ggX5_told_X5_isArc
theorem dX5_told_0 : decode cX5_told 0 = .ok (.aload_n 0, 1) := by decide +kernel
theorem dX5_told_1 : decode cX5_told 1 = .ok (.iconst 0, 1) := by decide +kernel
theorem dX5_told_2 : decode cX5_told 2 = .ok (.putfield 1, 3) := by decide +kernel
theorem dX5_told_5 : decode cX5_told 5 = .ok (.aload_n 0, 1) := by decide +kernel
theorem dX5_told_6 : decode cX5_told 6 = .ok (.iload_n 1, 1) := by decide +kernel
theorem dX5_told_7 : decode cX5_told 7 = .ok (.invokevirtual 74, 3) := by decide +kernel
theorem dX5_told_10 : decode cX5_told 10 = .ok (.ifCond .ne 6, 3) := by decide +kernel
theorem dX5_told_13 : decode cX5_told 13 = .ok (.bipush (-2), 2) := by decide +kernel
theorem dX5_told_15 : decode cX5_told 15 = .ok (.ireturn, 1) := by decide +kernel
theorem dX5_told_16 : decode cX5_told 16 = .ok (.iload_n 2, 1) := by decide +kernel
theorem dX5_told_17 : decode cX5_told 17 = .ok (.tableswitch 96 0 4 #[35, 42, 49, 65, 80], 35) := by decide +kernel
theorem dX5_told_52 : decode cX5_told 52 = .ok (.aload_n 0, 1) := by decide +kernel
theorem dX5_told_53 : decode cX5_told 53 = .ok (.getfield 13, 3) := by decide +kernel
theorem dX5_told_56 : decode cX5_told 56 = .ok (.iload_n 1, 1) := by decide +kernel
theorem dX5_told_57 : decode cX5_told 57 = .ok (.iaload, 1) := by decide +kernel
theorem dX5_told_58 : decode cX5_told 58 = .ok (.ireturn, 1) := by decide +kernel
theorem dX5_told_59 : decode cX5_told 59 = .ok (.aload_n 0, 1) := by decide +kernel
theorem dX5_told_60 : decode cX5_told 60 = .ok (.getfield 17, 3) := by decide +kernel
theorem dX5_told_63 : decode cX5_told 63 = .ok (.iload_n 1, 1) := by decide +kernel
theorem dX5_told_64 : decode cX5_told 64 = .ok (.iaload, 1) := by decide +kernel
theorem dX5_told_65 : decode cX5_told 65 = .ok (.ireturn, 1) := by decide +kernel
theorem dX5_told_66 : decode cX5_told 66 = .ok (.aload_n 0, 1) := by decide +kernel
theorem dX5_told_67 : decode cX5_told 67 = .ok (.getfield 20, 3) := by decide +kernel
theorem dX5_told_70 : decode cX5_told 70 = .ok (.iload_n 1, 1) := by decide +kernel
theorem dX5_told_71 : decode cX5_told 71 = .ok (.iaload, 1) := by decide +kernel
theorem dX5_told_72 : decode cX5_told 72 = .ok (.iconst 1, 1) := by decide +kernel
theorem dX5_told_73 : decode cX5_told 73 = .ok (.if_icmp .ne 7, 3) := by decide +kernel
theorem dX5_told_76 : decode cX5_told 76 = .ok (.iconst 1, 1) := by decide +kernel
theorem dX5_told_77 : decode cX5_told 77 = .ok (.goto 4, 3) := by decide +kernel
theorem dX5_told_80 : decode cX5_told 80 = .ok (.iconst 0, 1) := by decide +kernel
theorem dX5_told_81 : decode cX5_told 81 = .ok (.ireturn, 1) := by decide +kernel
theorem dX5_told_82 : decode cX5_told 82 = .ok (.aload_n 0, 1) := by decide +kernel
theorem dX5_told_83 : decode cX5_told 83 = .ok (.getfield 23, 3) := by decide +kernel
theorem dX5_told_86 : decode cX5_told 86 = .ok (.iload_n 1, 1) := by decide +kernel
theorem dX5_told_87 : decode cX5_told 87 = .ok (.baload, 1) := by decide +kernel
theorem dX5_told_88 : decode cX5_told 88 = .ok (.ifCond .eq 7, 3) := by decide +kernel
theorem dX5_told_91 : decode cX5_told 91 = .ok (.iconst 1, 1) := by decide +kernel
theorem dX5_told_92 : decode cX5_told 92 = .ok (.goto 4, 3) := by decide +kernel
theorem dX5_told_95 : decode cX5_told 95 = .ok (.iconst 0, 1) := by decide +kernel
theorem dX5_told_96 : decode cX5_told 96 = .ok (.ireturn, 1) := by decide +kernel
theorem dX5_told_97 : decode cX5_told 97 = .ok (.aload_n 0, 1) := by decide +kernel
theorem dX5_told_98 : decode cX5_told 98 = .ok (.getfield 20, 3) := by decide +kernel
theorem dX5_told_101 : decode cX5_told 101 = .ok (.iload_n 1, 1) := by decide +kernel
theorem dX5_told_102 : decode cX5_told 102 = .ok (.iaload, 1) := by decide +kernel
theorem dX5_told_103 : decode cX5_told 103 = .ok (.iconst 2, 1) := by decide +kernel
theorem dX5_told_104 : decode cX5_told 104 = .ok (.if_icmp .ne 7, 3) := by decide +kernel
theorem dX5_told_107 : decode cX5_told 107 = .ok (.iconst 1, 1) := by decide +kernel
theorem dX5_told_108 : decode cX5_told 108 = .ok (.goto 4, 3) := by decide +kernel
theorem dX5_told_111 : decode cX5_told 111 = .ok (.iconst 0, 1) := by decide +kernel
theorem dX5_told_112 : decode cX5_told 112 = .ok (.ireturn, 1) := by decide +kernel
theorem dX5_told_113 : decode cX5_told 113 = .ok (.bipush (-3), 2) := by decide +kernel
theorem dX5_told_115 : decode cX5_told 115 = .ok (.ireturn, 1) := by decide +kernel
set_option maxRecDepth 20000 in
theorem ggX5_degree_X5_isNode : GoodIn wsX5_degree wsX5_isNode := goodIn_r _ [7, 8, 21, 22, 23, 24, 25, 26, 27, 28, 29, 30, 31, 32, 33, 34, 35, 36, 37, 38, 39, 40] (by decide +kernel) (by decide +kernel)
set_option maxRecDepth 20000 in
theorem gX5_degree_X5_isNode : GoodIn wsX5_degree (wsV RX5 70 RX5 yX5_isNode wsX5_isNode) := goodIn_app (goodIn_of _ (by decide +kernel)) ggX5_degree_X5_isNode
set_option maxRecDepth 20000 in
theorem ggX5_degree_X5_isOf : GoodIn wsX5_degree wsX5_isOf := goodIn_r _ [12, 13, 14, 15, 16, 17, 6, 18, 19, 20, 21, 22, 23, 24, 25, 26, 27, 28, 29, 30, 31, 32, 33, 34, 35, 36, 37, 38, 39, 40] (by decide +kernel) (by decide +kernel)
set_option maxRecDepth 20000 in
theorem gX5_degree_X5_isOf : GoodIn wsX5_degree (wsV RX5 94 RX5 yX5_isOf wsX5_isOf) := goodIn_app (goodIn_of _ (by decide +kernel)) ggX5_degree_X5_isOf
theorem dX5_degree_0 : decode cX5_degree 0 = .ok (.aload_n 0, 1) := by decide +kernel
theorem dX5_degree_1 : decode cX5_degree 1 = .ok (.iconst 0, 1) := by decide +kernel
theorem dX5_degree_2 : decode cX5_degree 2 = .ok (.putfield 1, 3) := by decide +kernel
theorem dX5_degree_5 : decode cX5_degree 5 = .ok (.aload_n 0, 1) := by decide +kernel
theorem dX5_degree_6 : decode cX5_degree 6 = .ok (.iload_n 1, 1) := by decide +kernel
theorem dX5_degree_7 : decode cX5_degree 7 = .ok (.invokevirtual 70, 3) := by decide +kernel
theorem dX5_degree_10 : decode cX5_degree 10 = .ok (.ifCond .ne 6, 3) := by decide +kernel
theorem dX5_degree_13 : decode cX5_degree 13 = .ok (.bipush (-2), 2) := by decide +kernel
theorem dX5_degree_15 : decode cX5_degree 15 = .ok (.ireturn, 1) := by decide +kernel
theorem dX5_degree_16 : decode cX5_degree 16 = .ok (.iconst 0, 1) := by decide +kernel
theorem dX5_degree_17 : decode cX5_degree 17 = .ok (.istore_n 3, 1) := by decide +kernel
theorem dX5_degree_18 : decode cX5_degree 18 = .ok (.iconst 0, 1) := by decide +kernel
theorem dX5_degree_19 : decode cX5_degree 19 = .ok (.istore 4, 2) := by decide +kernel
theorem dX5_degree_21 : decode cX5_degree 21 = .ok (.iload 4, 2) := by decide +kernel
theorem dX5_degree_23 : decode cX5_degree 23 = .ok (.aload_n 0, 1) := by decide +kernel
theorem dX5_degree_24 : decode cX5_degree 24 = .ok (.getfield 67, 3) := by decide +kernel
theorem dX5_degree_27 : decode cX5_degree 27 = .ok (.if_icmp .ge 29, 3) := by decide +kernel
theorem dX5_degree_30 : decode cX5_degree 30 = .ok (.iload_n 3, 1) := by decide +kernel
theorem dX5_degree_31 : decode cX5_degree 31 = .ok (.aload_n 0, 1) := by decide +kernel
theorem dX5_degree_32 : decode cX5_degree 32 = .ok (.iload 4, 2) := by decide +kernel
theorem dX5_degree_34 : decode cX5_degree 34 = .ok (.iload_n 1, 1) := by decide +kernel
theorem dX5_degree_35 : decode cX5_degree 35 = .ok (.iload_n 2, 1) := by decide +kernel
theorem dX5_degree_36 : decode cX5_degree 36 = .ok (.iconst 1, 1) := by decide +kernel
theorem dX5_degree_37 : decode cX5_degree 37 = .ok (.invokevirtual 94, 3) := by decide +kernel
theorem dX5_degree_40 : decode cX5_degree 40 = .ok (.ifCond .eq 7, 3) := by decide +kernel
theorem dX5_degree_43 : decode cX5_degree 43 = .ok (.iconst 1, 1) := by decide +kernel
theorem dX5_degree_44 : decode cX5_degree 44 = .ok (.goto 4, 3) := by decide +kernel
theorem dX5_degree_47 : decode cX5_degree 47 = .ok (.iconst 0, 1) := by decide +kernel
theorem dX5_degree_48 : decode cX5_degree 48 = .ok (.iadd, 1) := by decide +kernel
theorem dX5_degree_49 : decode cX5_degree 49 = .ok (.istore_n 3, 1) := by decide +kernel
theorem dX5_degree_50 : decode cX5_degree 50 = .ok (.iinc 4 1, 3) := by decide +kernel
theorem dX5_degree_53 : decode cX5_degree 53 = .ok (.goto (-32), 3) := by decide +kernel
theorem dX5_degree_56 : decode cX5_degree 56 = .ok (.iload_n 3, 1) := by decide +kernel
theorem dX5_degree_57 : decode cX5_degree 57 = .ok (.ireturn, 1) := by decide +kernel
set_option maxRecDepth 20000 in
theorem ggX5_live_X5_isNode : GoodIn wsX5_live wsX5_isNode := goodIn_r _ [6, 7, 33, 34, 35, 36, 37, 38, 39, 40, 41, 42, 43, 44, 45, 46, 47, 48, 49, 50, 51, 52] (by decide +kernel) (by decide +kernel)
set_option maxRecDepth 20000 in
theorem gX5_live_X5_isNode : GoodIn wsX5_live (wsV RX5 70 RX5 yX5_isNode wsX5_isNode) := goodIn_app (goodIn_of _ (by decide +kernel)) ggX5_live_X5_isNode
set_option maxRecDepth 20000 in
theorem ggX5_live_X5_place : GoodIn wsX5_live wsX5_place := goodIn_r _ [11, 12, 13, 14, 15, 5, 16, 17, 18, 19, 20, 21, 22, 23, 24, 25, 26, 27, 28, 29, 30, 31, 32, 33, 34, 35, 36, 37, 38, 39, 40, 41, 42, 43, 44, 45, 46, 47, 48, 49, 50, 51, 52] (by decide +kernel) (by decide +kernel)
set_option maxRecDepth 20000 in
theorem gX5_live_X5_place : GoodIn wsX5_live (wsV RX5 102 RX5 yX5_place wsX5_place) := goodIn_app (goodIn_of _ (by decide +kernel)) ggX5_live_X5_place
theorem dX5_live_0 : decode cX5_live 0 = .ok (.aload_n 0, 1) := by decide +kernel
theorem dX5_live_1 : decode cX5_live 1 = .ok (.iconst 0, 1) := by decide +kernel
theorem dX5_live_2 : decode cX5_live 2 = .ok (.putfield 1, 3) := by decide +kernel
theorem dX5_live_5 : decode cX5_live 5 = .ok (.aload_n 0, 1) := by decide +kernel
theorem dX5_live_6 : decode cX5_live 6 = .ok (.iload_n 1, 1) := by decide +kernel
theorem dX5_live_7 : decode cX5_live 7 = .ok (.invokevirtual 70, 3) := by decide +kernel
theorem dX5_live_10 : decode cX5_live 10 = .ok (.ifCond .ne 6, 3) := by decide +kernel
theorem dX5_live_13 : decode cX5_live 13 = .ok (.bipush (-2), 2) := by decide +kernel
theorem dX5_live_15 : decode cX5_live 15 = .ok (.ireturn, 1) := by decide +kernel
theorem dX5_live_16 : decode cX5_live 16 = .ok (.iload_n 3, 1) := by decide +kernel
theorem dX5_live_17 : decode cX5_live 17 = .ok (.ifCond .ge 8, 3) := by decide +kernel
theorem dX5_live_20 : decode cX5_live 20 = .ok (.bipush (-3), 2) := by decide +kernel
theorem dX5_live_22 : decode cX5_live 22 = .ok (.goto 11, 3) := by decide +kernel
theorem dX5_live_25 : decode cX5_live 25 = .ok (.aload_n 0, 1) := by decide +kernel
theorem dX5_live_26 : decode cX5_live 26 = .ok (.iload_n 1, 1) := by decide +kernel
theorem dX5_live_27 : decode cX5_live 27 = .ok (.iload_n 2, 1) := by decide +kernel
theorem dX5_live_28 : decode cX5_live 28 = .ok (.iconst 1, 1) := by decide +kernel
theorem dX5_live_29 : decode cX5_live 29 = .ok (.iload_n 3, 1) := by decide +kernel
theorem dX5_live_30 : decode cX5_live 30 = .ok (.invokevirtual 102, 3) := by decide +kernel
theorem dX5_live_33 : decode cX5_live 33 = .ok (.ireturn, 1) := by decide +kernel
set_option maxRecDepth 20000 in
theorem ggX5_lead_X5_isOf : GoodIn wsX5_lead wsX5_isOf := goodIn_r _ [7, 8, 9, 10, 11, 12, 6, 13, 2, 14, 15, 16, 17, 18, 19, 20, 21, 22, 23, 24, 25, 26, 27, 28, 29, 30, 31, 32, 33, 34] (by decide +kernel) (by decide +kernel)
set_option maxRecDepth 20000 in
theorem gX5_lead_X5_isOf : GoodIn wsX5_lead (wsV RX5 94 RX5 yX5_isOf wsX5_isOf) := goodIn_app (goodIn_of _ (by decide +kernel)) ggX5_lead_X5_isOf
theorem dX5_lead_0 : decode cX5_lead 0 = .ok (.iconst 0, 1) := by decide +kernel
theorem dX5_lead_1 : decode cX5_lead 1 = .ok (.istore_n 3, 1) := by decide +kernel
theorem dX5_lead_2 : decode cX5_lead 2 = .ok (.iconst 0, 1) := by decide +kernel
theorem dX5_lead_3 : decode cX5_lead 3 = .ok (.istore 4, 2) := by decide +kernel
theorem dX5_lead_5 : decode cX5_lead 5 = .ok (.iload 4, 2) := by decide +kernel
theorem dX5_lead_7 : decode cX5_lead 7 = .ok (.aload_n 0, 1) := by decide +kernel
theorem dX5_lead_8 : decode cX5_lead 8 = .ok (.getfield 67, 3) := by decide +kernel
theorem dX5_lead_11 : decode cX5_lead 11 = .ok (.if_icmp .ge 40, 3) := by decide +kernel
theorem dX5_lead_14 : decode cX5_lead 14 = .ok (.iload_n 3, 1) := by decide +kernel
theorem dX5_lead_15 : decode cX5_lead 15 = .ok (.aload_n 0, 1) := by decide +kernel
theorem dX5_lead_16 : decode cX5_lead 16 = .ok (.iload 4, 2) := by decide +kernel
theorem dX5_lead_18 : decode cX5_lead 18 = .ok (.iload_n 1, 1) := by decide +kernel
theorem dX5_lead_19 : decode cX5_lead 19 = .ok (.iconst 0, 1) := by decide +kernel
theorem dX5_lead_20 : decode cX5_lead 20 = .ok (.iconst 1, 1) := by decide +kernel
theorem dX5_lead_21 : decode cX5_lead 21 = .ok (.invokevirtual 94, 3) := by decide +kernel
theorem dX5_lead_24 : decode cX5_lead 24 = .ok (.ifCond .eq 18, 3) := by decide +kernel
theorem dX5_lead_27 : decode cX5_lead 27 = .ok (.aload_n 0, 1) := by decide +kernel
theorem dX5_lead_28 : decode cX5_lead 28 = .ok (.getfield 17, 3) := by decide +kernel
theorem dX5_lead_31 : decode cX5_lead 31 = .ok (.iload 4, 2) := by decide +kernel
theorem dX5_lead_33 : decode cX5_lead 33 = .ok (.iaload, 1) := by decide +kernel
theorem dX5_lead_34 : decode cX5_lead 34 = .ok (.iload_n 2, 1) := by decide +kernel
theorem dX5_lead_35 : decode cX5_lead 35 = .ok (.if_icmp .ne 7, 3) := by decide +kernel
theorem dX5_lead_38 : decode cX5_lead 38 = .ok (.iconst 1, 1) := by decide +kernel
theorem dX5_lead_39 : decode cX5_lead 39 = .ok (.goto 4, 3) := by decide +kernel
theorem dX5_lead_42 : decode cX5_lead 42 = .ok (.iconst 0, 1) := by decide +kernel
theorem dX5_lead_43 : decode cX5_lead 43 = .ok (.iadd, 1) := by decide +kernel
theorem dX5_lead_44 : decode cX5_lead 44 = .ok (.istore_n 3, 1) := by decide +kernel
theorem dX5_lead_45 : decode cX5_lead 45 = .ok (.iinc 4 1, 3) := by decide +kernel
theorem dX5_lead_48 : decode cX5_lead 48 = .ok (.goto (-43), 3) := by decide +kernel
theorem dX5_lead_51 : decode cX5_lead 51 = .ok (.iload_n 3, 1) := by decide +kernel
theorem dX5_lead_52 : decode cX5_lead 52 = .ok (.ireturn, 1) := by decide +kernel
set_option maxRecDepth 20000 in
theorem ggX5_between_X5_isNode : GoodIn wsX5_between wsX5_isNode := goodIn_r _ [6, 7, 25, 26, 27, 28, 29, 30, 31, 32, 33, 34, 35, 36, 37, 38, 39, 40, 41, 42, 43, 44] (by decide +kernel) (by decide +kernel)
set_option maxRecDepth 20000 in
theorem gX5_between_X5_isNode : GoodIn wsX5_between (wsV RX5 70 RX5 yX5_isNode wsX5_isNode) := goodIn_app (goodIn_of _ (by decide +kernel)) ggX5_between_X5_isNode
set_option maxRecDepth 20000 in
theorem ggX5_between_X5_lead : GoodIn wsX5_between wsX5_lead := goodIn_r _ [11, 12, 13, 14, 15, 16, 5, 17, 18, 19, 20, 21, 22, 23, 24, 25, 26, 27, 28, 29, 30, 31, 32, 33, 34, 35, 36, 37, 38, 39, 40, 41, 42, 43, 44] (by decide +kernel) (by decide +kernel)
set_option maxRecDepth 20000 in
theorem gX5_between_X5_lead : GoodIn wsX5_between (wsV RX5 110 RX5 yX5_lead wsX5_lead) := goodIn_app (goodIn_of _ (by decide +kernel)) ggX5_between_X5_lead
theorem dX5_between_0 : decode cX5_between 0 = .ok (.aload_n 0, 1) := by decide +kernel
theorem dX5_between_1 : decode cX5_between 1 = .ok (.iconst 0, 1) := by decide +kernel
theorem dX5_between_2 : decode cX5_between 2 = .ok (.putfield 1, 3) := by decide +kernel
theorem dX5_between_5 : decode cX5_between 5 = .ok (.aload_n 0, 1) := by decide +kernel
theorem dX5_between_6 : decode cX5_between 6 = .ok (.iload_n 1, 1) := by decide +kernel
theorem dX5_between_7 : decode cX5_between 7 = .ok (.invokevirtual 70, 3) := by decide +kernel
theorem dX5_between_10 : decode cX5_between 10 = .ok (.ifCond .eq 20, 3) := by decide +kernel
theorem dX5_between_13 : decode cX5_between 13 = .ok (.aload_n 0, 1) := by decide +kernel
theorem dX5_between_14 : decode cX5_between 14 = .ok (.iload_n 2, 1) := by decide +kernel
theorem dX5_between_15 : decode cX5_between 15 = .ok (.invokevirtual 70, 3) := by decide +kernel
theorem dX5_between_18 : decode cX5_between 18 = .ok (.ifCond .eq 12, 3) := by decide +kernel
theorem dX5_between_21 : decode cX5_between 21 = .ok (.aload_n 0, 1) := by decide +kernel
theorem dX5_between_22 : decode cX5_between 22 = .ok (.iload_n 1, 1) := by decide +kernel
theorem dX5_between_23 : decode cX5_between 23 = .ok (.iload_n 2, 1) := by decide +kernel
theorem dX5_between_24 : decode cX5_between 24 = .ok (.invokevirtual 110, 3) := by decide +kernel
theorem dX5_between_27 : decode cX5_between 27 = .ok (.goto 5, 3) := by decide +kernel
theorem dX5_between_30 : decode cX5_between 30 = .ok (.bipush (-2), 2) := by decide +kernel
theorem dX5_between_32 : decode cX5_between 32 = .ok (.ireturn, 1) := by decide +kernel
set_option maxRecDepth 20000 in
theorem ggX5_near_X5_isNode : GoodIn wsX5_near wsX5_isNode := goodIn_r _ [11, 2, 22, 23, 24, 25, 26, 27, 28, 29, 30, 31, 32, 33, 34, 35, 36, 37, 38, 39, 40, 41] (by decide +kernel) (by decide +kernel)
set_option maxRecDepth 20000 in
theorem gX5_near_X5_isNode : GoodIn wsX5_near (wsV RX5 70 RX5 yX5_isNode wsX5_isNode) := goodIn_app (goodIn_of _ (by decide +kernel)) ggX5_near_X5_isNode
set_option maxRecDepth 20000 in
theorem ggX5_near_X5_isOf : GoodIn wsX5_near wsX5_isOf := goodIn_r _ [15, 16, 17, 18, 19, 20, 10, 21, 6, 5, 22, 23, 24, 25, 26, 27, 28, 29, 30, 31, 32, 33, 34, 35, 36, 37, 38, 39, 40, 41] (by decide +kernel) (by decide +kernel)
set_option maxRecDepth 20000 in
theorem gX5_near_X5_isOf : GoodIn wsX5_near (wsV RX5 94 RX5 yX5_isOf wsX5_isOf) := goodIn_app (goodIn_of _ (by decide +kernel)) ggX5_near_X5_isOf
theorem dX5_near_0 : decode cX5_near 0 = .ok (.aload_n 0, 1) := by decide +kernel
theorem dX5_near_1 : decode cX5_near 1 = .ok (.iconst 0, 1) := by decide +kernel
theorem dX5_near_2 : decode cX5_near 2 = .ok (.putfield 1, 3) := by decide +kernel
theorem dX5_near_5 : decode cX5_near 5 = .ok (.aload_n 0, 1) := by decide +kernel
theorem dX5_near_6 : decode cX5_near 6 = .ok (.iload_n 1, 1) := by decide +kernel
theorem dX5_near_7 : decode cX5_near 7 = .ok (.invokevirtual 70, 3) := by decide +kernel
theorem dX5_near_10 : decode cX5_near 10 = .ok (.ifCond .eq 11, 3) := by decide +kernel
theorem dX5_near_13 : decode cX5_near 13 = .ok (.aload_n 0, 1) := by decide +kernel
theorem dX5_near_14 : decode cX5_near 14 = .ok (.iload_n 2, 1) := by decide +kernel
theorem dX5_near_15 : decode cX5_near 15 = .ok (.invokevirtual 70, 3) := by decide +kernel
theorem dX5_near_18 : decode cX5_near 18 = .ok (.ifCond .ne 6, 3) := by decide +kernel
theorem dX5_near_21 : decode cX5_near 21 = .ok (.bipush (-2), 2) := by decide +kernel
theorem dX5_near_23 : decode cX5_near 23 = .ok (.ireturn, 1) := by decide +kernel
theorem dX5_near_24 : decode cX5_near 24 = .ok (.iconst 0, 1) := by decide +kernel
theorem dX5_near_25 : decode cX5_near 25 = .ok (.istore_n 3, 1) := by decide +kernel
theorem dX5_near_26 : decode cX5_near 26 = .ok (.iload_n 3, 1) := by decide +kernel
theorem dX5_near_27 : decode cX5_near 27 = .ok (.aload_n 0, 1) := by decide +kernel
theorem dX5_near_28 : decode cX5_near 28 = .ok (.getfield 64, 3) := by decide +kernel
theorem dX5_near_31 : decode cX5_near 31 = .ok (.if_icmp .ge 25, 3) := by decide +kernel
theorem dX5_near_34 : decode cX5_near 34 = .ok (.aload_n 0, 1) := by decide +kernel
theorem dX5_near_35 : decode cX5_near 35 = .ok (.getfield 54, 3) := by decide +kernel
theorem dX5_near_38 : decode cX5_near 38 = .ok (.iload_n 3, 1) := by decide +kernel
theorem dX5_near_39 : decode cX5_near 39 = .ok (.iload_n 3, 1) := by decide +kernel
theorem dX5_near_40 : decode cX5_near 40 = .ok (.iload_n 1, 1) := by decide +kernel
theorem dX5_near_41 : decode cX5_near 41 = .ok (.if_icmp .ne 7, 3) := by decide +kernel
theorem dX5_near_44 : decode cX5_near 44 = .ok (.iconst 0, 1) := by decide +kernel
theorem dX5_near_45 : decode cX5_near 45 = .ok (.goto 4, 3) := by decide +kernel
theorem dX5_near_48 : decode cX5_near 48 = .ok (.iconst (-1), 1) := by decide +kernel
theorem dX5_near_49 : decode cX5_near 49 = .ok (.iastore, 1) := by decide +kernel
theorem dX5_near_50 : decode cX5_near 50 = .ok (.iinc 3 1, 3) := by decide +kernel
theorem dX5_near_53 : decode cX5_near 53 = .ok (.goto (-27), 3) := by decide +kernel
theorem dX5_near_56 : decode cX5_near 56 = .ok (.iconst 0, 1) := by decide +kernel
theorem dX5_near_57 : decode cX5_near 57 = .ok (.istore_n 3, 1) := by decide +kernel
theorem dX5_near_58 : decode cX5_near 58 = .ok (.iload_n 3, 1) := by decide +kernel
theorem dX5_near_59 : decode cX5_near 59 = .ok (.aload_n 0, 1) := by decide +kernel
theorem dX5_near_60 : decode cX5_near 60 = .ok (.getfield 64, 3) := by decide +kernel
theorem dX5_near_63 : decode cX5_near 63 = .ok (.if_icmp .ge 92, 3) := by decide +kernel
theorem dX5_near_66 : decode cX5_near 66 = .ok (.iconst 0, 1) := by decide +kernel
theorem dX5_near_67 : decode cX5_near 67 = .ok (.istore 4, 2) := by decide +kernel
theorem dX5_near_69 : decode cX5_near 69 = .ok (.iload 4, 2) := by decide +kernel
theorem dX5_near_71 : decode cX5_near 71 = .ok (.aload_n 0, 1) := by decide +kernel
theorem dX5_near_72 : decode cX5_near 72 = .ok (.getfield 67, 3) := by decide +kernel
theorem dX5_near_75 : decode cX5_near 75 = .ok (.if_icmp .ge 74, 3) := by decide +kernel
theorem dX5_near_78 : decode cX5_near 78 = .ok (.aload_n 0, 1) := by decide +kernel
theorem dX5_near_79 : decode cX5_near 79 = .ok (.iload 4, 2) := by decide +kernel
theorem dX5_near_81 : decode cX5_near 81 = .ok (.aload_n 0, 1) := by decide +kernel
theorem dX5_near_82 : decode cX5_near 82 = .ok (.getfield 13, 3) := by decide +kernel
theorem dX5_near_85 : decode cX5_near 85 = .ok (.iload 4, 2) := by decide +kernel
theorem dX5_near_87 : decode cX5_near 87 = .ok (.iaload, 1) := by decide +kernel
theorem dX5_near_88 : decode cX5_near 88 = .ok (.iconst 0, 1) := by decide +kernel
theorem dX5_near_89 : decode cX5_near 89 = .ok (.iconst 1, 1) := by decide +kernel
theorem dX5_near_90 : decode cX5_near 90 = .ok (.invokevirtual 94, 3) := by decide +kernel
theorem dX5_near_93 : decode cX5_near 93 = .ok (.ifCond .eq 50, 3) := by decide +kernel
theorem dX5_near_96 : decode cX5_near 96 = .ok (.aload_n 0, 1) := by decide +kernel
theorem dX5_near_97 : decode cX5_near 97 = .ok (.getfield 54, 3) := by decide +kernel
theorem dX5_near_100 : decode cX5_near 100 = .ok (.aload_n 0, 1) := by decide +kernel
theorem dX5_near_101 : decode cX5_near 101 = .ok (.getfield 13, 3) := by decide +kernel
theorem dX5_near_104 : decode cX5_near 104 = .ok (.iload 4, 2) := by decide +kernel
theorem dX5_near_106 : decode cX5_near 106 = .ok (.iaload, 1) := by decide +kernel
theorem dX5_near_107 : decode cX5_near 107 = .ok (.iaload, 1) := by decide +kernel
theorem dX5_near_108 : decode cX5_near 108 = .ok (.iload_n 3, 1) := by decide +kernel
theorem dX5_near_109 : decode cX5_near 109 = .ok (.if_icmp .ne 34, 3) := by decide +kernel
theorem dX5_near_112 : decode cX5_near 112 = .ok (.aload_n 0, 1) := by decide +kernel
theorem dX5_near_113 : decode cX5_near 113 = .ok (.getfield 54, 3) := by decide +kernel
theorem dX5_near_116 : decode cX5_near 116 = .ok (.aload_n 0, 1) := by decide +kernel
theorem dX5_near_117 : decode cX5_near 117 = .ok (.getfield 17, 3) := by decide +kernel
theorem dX5_near_120 : decode cX5_near 120 = .ok (.iload 4, 2) := by decide +kernel
theorem dX5_near_122 : decode cX5_near 122 = .ok (.iaload, 1) := by decide +kernel
theorem dX5_near_123 : decode cX5_near 123 = .ok (.iaload, 1) := by decide +kernel
theorem dX5_near_124 : decode cX5_near 124 = .ok (.iconst (-1), 1) := by decide +kernel
theorem dX5_near_125 : decode cX5_near 125 = .ok (.if_icmp .ne 18, 3) := by decide +kernel
theorem dX5_near_128 : decode cX5_near 128 = .ok (.aload_n 0, 1) := by decide +kernel
theorem dX5_near_129 : decode cX5_near 129 = .ok (.getfield 54, 3) := by decide +kernel
theorem dX5_near_132 : decode cX5_near 132 = .ok (.aload_n 0, 1) := by decide +kernel
theorem dX5_near_133 : decode cX5_near 133 = .ok (.getfield 17, 3) := by decide +kernel
theorem dX5_near_136 : decode cX5_near 136 = .ok (.iload 4, 2) := by decide +kernel
theorem dX5_near_138 : decode cX5_near 138 = .ok (.iaload, 1) := by decide +kernel
theorem dX5_near_139 : decode cX5_near 139 = .ok (.iload_n 3, 1) := by decide +kernel
theorem dX5_near_140 : decode cX5_near 140 = .ok (.iconst 1, 1) := by decide +kernel
theorem dX5_near_141 : decode cX5_near 141 = .ok (.iadd, 1) := by decide +kernel
theorem dX5_near_142 : decode cX5_near 142 = .ok (.iastore, 1) := by decide +kernel
theorem dX5_near_143 : decode cX5_near 143 = .ok (.iinc 4 1, 3) := by decide +kernel
theorem dX5_near_146 : decode cX5_near 146 = .ok (.goto (-77), 3) := by decide +kernel
theorem dX5_near_149 : decode cX5_near 149 = .ok (.iinc 3 1, 3) := by decide +kernel
theorem dX5_near_152 : decode cX5_near 152 = .ok (.goto (-94), 3) := by decide +kernel
theorem dX5_near_155 : decode cX5_near 155 = .ok (.aload_n 0, 1) := by decide +kernel
theorem dX5_near_156 : decode cX5_near 156 = .ok (.getfield 54, 3) := by decide +kernel
theorem dX5_near_159 : decode cX5_near 159 = .ok (.iload_n 2, 1) := by decide +kernel
theorem dX5_near_160 : decode cX5_near 160 = .ok (.iaload, 1) := by decide +kernel
theorem dX5_near_161 : decode cX5_near 161 = .ok (.ireturn, 1) := by decide +kernel
set_option maxRecDepth 20000 in
theorem ggX5_ways_X5_isNode : GoodIn wsX5_ways wsX5_isNode := goodIn_r _ [14, 4, 25, 26, 27, 28, 29, 30, 31, 32, 33, 34, 35, 36, 37, 38, 39, 40, 41, 42, 43, 44] (by decide +kernel) (by decide +kernel)
set_option maxRecDepth 20000 in
theorem gX5_ways_X5_isNode : GoodIn wsX5_ways (wsV RX5 70 RX5 yX5_isNode wsX5_isNode) := goodIn_app (goodIn_of _ (by decide +kernel)) ggX5_ways_X5_isNode
set_option maxRecDepth 20000 in
theorem ggX5_ways_X5_isOf : GoodIn wsX5_ways wsX5_isOf := goodIn_r _ [18, 19, 20, 21, 22, 23, 13, 24, 8, 9, 25, 26, 27, 28, 29, 30, 31, 32, 33, 34, 35, 36, 37, 38, 39, 40, 41, 42, 43, 44] (by decide +kernel) (by decide +kernel)
set_option maxRecDepth 20000 in
theorem gX5_ways_X5_isOf : GoodIn wsX5_ways (wsV RX5 94 RX5 yX5_isOf wsX5_isOf) := goodIn_app (goodIn_of _ (by decide +kernel)) ggX5_ways_X5_isOf
theorem dX5_ways_0 : decode cX5_ways 0 = .ok (.aload_n 0, 1) := by decide +kernel
theorem dX5_ways_1 : decode cX5_ways 1 = .ok (.iconst 0, 1) := by decide +kernel
theorem dX5_ways_2 : decode cX5_ways 2 = .ok (.putfield 1, 3) := by decide +kernel
theorem dX5_ways_5 : decode cX5_ways 5 = .ok (.aload_n 0, 1) := by decide +kernel
theorem dX5_ways_6 : decode cX5_ways 6 = .ok (.iload_n 1, 1) := by decide +kernel
theorem dX5_ways_7 : decode cX5_ways 7 = .ok (.invokevirtual 70, 3) := by decide +kernel
theorem dX5_ways_10 : decode cX5_ways 10 = .ok (.ifCond .eq 11, 3) := by decide +kernel
theorem dX5_ways_13 : decode cX5_ways 13 = .ok (.aload_n 0, 1) := by decide +kernel
theorem dX5_ways_14 : decode cX5_ways 14 = .ok (.iload_n 2, 1) := by decide +kernel
theorem dX5_ways_15 : decode cX5_ways 15 = .ok (.invokevirtual 70, 3) := by decide +kernel
theorem dX5_ways_18 : decode cX5_ways 18 = .ok (.ifCond .ne 7, 3) := by decide +kernel
theorem dX5_ways_21 : decode cX5_ways 21 = .ok (.ldc2_w 114, 3) := by decide +kernel
theorem dX5_ways_24 : decode cX5_ways 24 = .ok (.lreturn, 1) := by decide +kernel
theorem dX5_ways_25 : decode cX5_ways 25 = .ok (.iload_n 3, 1) := by decide +kernel
theorem dX5_ways_26 : decode cX5_ways 26 = .ok (.ifCond .lt 9, 3) := by decide +kernel
theorem dX5_ways_29 : decode cX5_ways 29 = .ok (.iload_n 3, 1) := by decide +kernel
theorem dX5_ways_30 : decode cX5_ways 30 = .ok (.bipush 60, 2) := by decide +kernel
theorem dX5_ways_32 : decode cX5_ways 32 = .ok (.if_icmp .le 7, 3) := by decide +kernel
theorem dX5_ways_35 : decode cX5_ways 35 = .ok (.ldc2_w 116, 3) := by decide +kernel
theorem dX5_ways_38 : decode cX5_ways 38 = .ok (.lreturn, 1) := by decide +kernel
theorem dX5_ways_39 : decode cX5_ways 39 = .ok (.iconst 0, 1) := by decide +kernel
theorem dX5_ways_40 : decode cX5_ways 40 = .ok (.istore 4, 2) := by decide +kernel
theorem dX5_ways_42 : decode cX5_ways 42 = .ok (.iload 4, 2) := by decide +kernel
theorem dX5_ways_44 : decode cX5_ways 44 = .ok (.aload_n 0, 1) := by decide +kernel
theorem dX5_ways_45 : decode cX5_ways 45 = .ok (.getfield 64, 3) := by decide +kernel
theorem dX5_ways_48 : decode cX5_ways 48 = .ok (.if_icmp .ge 27, 3) := by decide +kernel
theorem dX5_ways_51 : decode cX5_ways 51 = .ok (.aload_n 0, 1) := by decide +kernel
theorem dX5_ways_52 : decode cX5_ways 52 = .ok (.getfield 57, 3) := by decide +kernel
theorem dX5_ways_55 : decode cX5_ways 55 = .ok (.iload 4, 2) := by decide +kernel
theorem dX5_ways_57 : decode cX5_ways 57 = .ok (.iload 4, 2) := by decide +kernel
theorem dX5_ways_59 : decode cX5_ways 59 = .ok (.iload_n 1, 1) := by decide +kernel
theorem dX5_ways_60 : decode cX5_ways 60 = .ok (.if_icmp .ne 7, 3) := by decide +kernel
theorem dX5_ways_63 : decode cX5_ways 63 = .ok (.lconst 1, 1) := by decide +kernel
theorem dX5_ways_64 : decode cX5_ways 64 = .ok (.goto 4, 3) := by decide +kernel
theorem dX5_ways_67 : decode cX5_ways 67 = .ok (.lconst 0, 1) := by decide +kernel
theorem dX5_ways_68 : decode cX5_ways 68 = .ok (.lastore, 1) := by decide +kernel
theorem dX5_ways_69 : decode cX5_ways 69 = .ok (.iinc 4 1, 3) := by decide +kernel
theorem dX5_ways_72 : decode cX5_ways 72 = .ok (.goto (-30), 3) := by decide +kernel
theorem dX5_ways_75 : decode cX5_ways 75 = .ok (.iconst 0, 1) := by decide +kernel
theorem dX5_ways_76 : decode cX5_ways 76 = .ok (.istore 4, 2) := by decide +kernel
theorem dX5_ways_78 : decode cX5_ways 78 = .ok (.iload 4, 2) := by decide +kernel
theorem dX5_ways_80 : decode cX5_ways 80 = .ok (.iload_n 3, 1) := by decide +kernel
theorem dX5_ways_81 : decode cX5_ways 81 = .ok (.if_icmp .ge 134, 3) := by decide +kernel
theorem dX5_ways_84 : decode cX5_ways 84 = .ok (.iconst 0, 1) := by decide +kernel
theorem dX5_ways_85 : decode cX5_ways 85 = .ok (.istore 5, 2) := by decide +kernel
theorem dX5_ways_87 : decode cX5_ways 87 = .ok (.iload 5, 2) := by decide +kernel
theorem dX5_ways_89 : decode cX5_ways 89 = .ok (.aload_n 0, 1) := by decide +kernel
theorem dX5_ways_90 : decode cX5_ways 90 = .ok (.getfield 64, 3) := by decide +kernel
theorem dX5_ways_93 : decode cX5_ways 93 = .ok (.if_icmp .ge 17, 3) := by decide +kernel
theorem dX5_ways_96 : decode cX5_ways 96 = .ok (.aload_n 0, 1) := by decide +kernel
theorem dX5_ways_97 : decode cX5_ways 97 = .ok (.getfield 61, 3) := by decide +kernel
theorem dX5_ways_100 : decode cX5_ways 100 = .ok (.iload 5, 2) := by decide +kernel
theorem dX5_ways_102 : decode cX5_ways 102 = .ok (.lconst 0, 1) := by decide +kernel
theorem dX5_ways_103 : decode cX5_ways 103 = .ok (.lastore, 1) := by decide +kernel
theorem dX5_ways_104 : decode cX5_ways 104 = .ok (.iinc 5 1, 3) := by decide +kernel
theorem dX5_ways_107 : decode cX5_ways 107 = .ok (.goto (-20), 3) := by decide +kernel
theorem dX5_ways_110 : decode cX5_ways 110 = .ok (.iconst 0, 1) := by decide +kernel
theorem dX5_ways_111 : decode cX5_ways 111 = .ok (.istore 5, 2) := by decide +kernel
theorem dX5_ways_113 : decode cX5_ways 113 = .ok (.iload 5, 2) := by decide +kernel
theorem dX5_ways_115 : decode cX5_ways 115 = .ok (.aload_n 0, 1) := by decide +kernel
theorem dX5_ways_116 : decode cX5_ways 116 = .ok (.getfield 67, 3) := by decide +kernel
theorem dX5_ways_119 : decode cX5_ways 119 = .ok (.if_icmp .ge 58, 3) := by decide +kernel
theorem dX5_ways_122 : decode cX5_ways 122 = .ok (.aload_n 0, 1) := by decide +kernel
theorem dX5_ways_123 : decode cX5_ways 123 = .ok (.getfield 61, 3) := by decide +kernel
theorem dX5_ways_126 : decode cX5_ways 126 = .ok (.aload_n 0, 1) := by decide +kernel
theorem dX5_ways_127 : decode cX5_ways 127 = .ok (.getfield 17, 3) := by decide +kernel
theorem dX5_ways_130 : decode cX5_ways 130 = .ok (.iload 5, 2) := by decide +kernel
theorem dX5_ways_132 : decode cX5_ways 132 = .ok (.iaload, 1) := by decide +kernel
theorem dX5_ways_133 : decode cX5_ways 133 = .ok (.dup2, 1) := by decide +kernel
theorem dX5_ways_134 : decode cX5_ways 134 = .ok (.laload, 1) := by decide +kernel
theorem dX5_ways_135 : decode cX5_ways 135 = .ok (.aload_n 0, 1) := by decide +kernel
theorem dX5_ways_136 : decode cX5_ways 136 = .ok (.iload 5, 2) := by decide +kernel
theorem dX5_ways_138 : decode cX5_ways 138 = .ok (.aload_n 0, 1) := by decide +kernel
theorem dX5_ways_139 : decode cX5_ways 139 = .ok (.getfield 13, 3) := by decide +kernel
theorem dX5_ways_142 : decode cX5_ways 142 = .ok (.iload 5, 2) := by decide +kernel
theorem dX5_ways_144 : decode cX5_ways 144 = .ok (.iaload, 1) := by decide +kernel
theorem dX5_ways_145 : decode cX5_ways 145 = .ok (.iconst 0, 1) := by decide +kernel
theorem dX5_ways_146 : decode cX5_ways 146 = .ok (.iconst 1, 1) := by decide +kernel
theorem dX5_ways_147 : decode cX5_ways 147 = .ok (.invokevirtual 94, 3) := by decide +kernel
theorem dX5_ways_150 : decode cX5_ways 150 = .ok (.ifCond .eq 18, 3) := by decide +kernel
theorem dX5_ways_153 : decode cX5_ways 153 = .ok (.aload_n 0, 1) := by decide +kernel
theorem dX5_ways_154 : decode cX5_ways 154 = .ok (.getfield 57, 3) := by decide +kernel
theorem dX5_ways_157 : decode cX5_ways 157 = .ok (.aload_n 0, 1) := by decide +kernel
theorem dX5_ways_158 : decode cX5_ways 158 = .ok (.getfield 13, 3) := by decide +kernel
theorem dX5_ways_161 : decode cX5_ways 161 = .ok (.iload 5, 2) := by decide +kernel
theorem dX5_ways_163 : decode cX5_ways 163 = .ok (.iaload, 1) := by decide +kernel
theorem dX5_ways_164 : decode cX5_ways 164 = .ok (.laload, 1) := by decide +kernel
theorem dX5_ways_165 : decode cX5_ways 165 = .ok (.goto 4, 3) := by decide +kernel
theorem dX5_ways_168 : decode cX5_ways 168 = .ok (.lconst 0, 1) := by decide +kernel
theorem dX5_ways_169 : decode cX5_ways 169 = .ok (.ladd, 1) := by decide +kernel
theorem dX5_ways_170 : decode cX5_ways 170 = .ok (.lastore, 1) := by decide +kernel
theorem dX5_ways_171 : decode cX5_ways 171 = .ok (.iinc 5 1, 3) := by decide +kernel
theorem dX5_ways_174 : decode cX5_ways 174 = .ok (.goto (-61), 3) := by decide +kernel
theorem dX5_ways_177 : decode cX5_ways 177 = .ok (.iconst 0, 1) := by decide +kernel
theorem dX5_ways_178 : decode cX5_ways 178 = .ok (.istore 5, 2) := by decide +kernel
theorem dX5_ways_180 : decode cX5_ways 180 = .ok (.iload 5, 2) := by decide +kernel
theorem dX5_ways_182 : decode cX5_ways 182 = .ok (.aload_n 0, 1) := by decide +kernel
theorem dX5_ways_183 : decode cX5_ways 183 = .ok (.getfield 64, 3) := by decide +kernel
theorem dX5_ways_186 : decode cX5_ways 186 = .ok (.if_icmp .ge 23, 3) := by decide +kernel
theorem dX5_ways_189 : decode cX5_ways 189 = .ok (.aload_n 0, 1) := by decide +kernel
theorem dX5_ways_190 : decode cX5_ways 190 = .ok (.getfield 57, 3) := by decide +kernel
theorem dX5_ways_193 : decode cX5_ways 193 = .ok (.iload 5, 2) := by decide +kernel
theorem dX5_ways_195 : decode cX5_ways 195 = .ok (.aload_n 0, 1) := by decide +kernel
theorem dX5_ways_196 : decode cX5_ways 196 = .ok (.getfield 61, 3) := by decide +kernel
theorem dX5_ways_199 : decode cX5_ways 199 = .ok (.iload 5, 2) := by decide +kernel
theorem dX5_ways_201 : decode cX5_ways 201 = .ok (.laload, 1) := by decide +kernel
theorem dX5_ways_202 : decode cX5_ways 202 = .ok (.lastore, 1) := by decide +kernel
theorem dX5_ways_203 : decode cX5_ways 203 = .ok (.iinc 5 1, 3) := by decide +kernel
theorem dX5_ways_206 : decode cX5_ways 206 = .ok (.goto (-26), 3) := by decide +kernel
theorem dX5_ways_209 : decode cX5_ways 209 = .ok (.iinc 4 1, 3) := by decide +kernel
theorem dX5_ways_212 : decode cX5_ways 212 = .ok (.goto (-134), 3) := by decide +kernel
theorem dX5_ways_215 : decode cX5_ways 215 = .ok (.aload_n 0, 1) := by decide +kernel
theorem dX5_ways_216 : decode cX5_ways 216 = .ok (.getfield 57, 3) := by decide +kernel
theorem dX5_ways_219 : decode cX5_ways 219 = .ok (.iload_n 2, 1) := by decide +kernel
theorem dX5_ways_220 : decode cX5_ways 220 = .ok (.laload, 1) := by decide +kernel
theorem dX5_ways_221 : decode cX5_ways 221 = .ok (.lreturn, 1) := by decide +kernel
set_option maxRecDepth 20000 in
theorem ggX5_open_X5_isNode : GoodIn wsX5_open wsX5_isNode := goodIn_r _ [12, 13, 14, 15, 16, 17, 18, 19, 20, 21, 22, 23, 24, 25, 26, 27, 28, 29, 30, 31, 32, 33] (by decide +kernel) (by decide +kernel)
set_option maxRecDepth 20000 in
theorem gX5_open_X5_isNode : GoodIn wsX5_open (wsV RX5 70 RX5 yX5_isNode wsX5_isNode) := goodIn_app (goodIn_of _ (by decide +kernel)) ggX5_open_X5_isNode
theorem dX5_open_0 : decode cX5_open 0 = .ok (.aload_n 0, 1) := by decide +kernel
theorem dX5_open_1 : decode cX5_open 1 = .ok (.iconst 0, 1) := by decide +kernel
theorem dX5_open_2 : decode cX5_open 2 = .ok (.putfield 1, 3) := by decide +kernel
theorem dX5_open_5 : decode cX5_open 5 = .ok (.aload_n 0, 1) := by decide +kernel
theorem dX5_open_6 : decode cX5_open 6 = .ok (.iload_n 1, 1) := by decide +kernel
theorem dX5_open_7 : decode cX5_open 7 = .ok (.invokevirtual 70, 3) := by decide +kernel
theorem dX5_open_10 : decode cX5_open 10 = .ok (.ifCond .ne 6, 3) := by decide +kernel
theorem dX5_open_13 : decode cX5_open 13 = .ok (.bipush (-2), 2) := by decide +kernel
theorem dX5_open_15 : decode cX5_open 15 = .ok (.ireturn, 1) := by decide +kernel
theorem dX5_open_16 : decode cX5_open 16 = .ok (.iconst 0, 1) := by decide +kernel
theorem dX5_open_17 : decode cX5_open 17 = .ok (.istore_n 3, 1) := by decide +kernel
theorem dX5_open_18 : decode cX5_open 18 = .ok (.iload_n 3, 1) := by decide +kernel
theorem dX5_open_19 : decode cX5_open 19 = .ok (.bipush 8, 2) := by decide +kernel
theorem dX5_open_21 : decode cX5_open 21 = .ok (.if_icmp .ge 18, 3) := by decide +kernel
theorem dX5_open_24 : decode cX5_open 24 = .ok (.aload_n 0, 1) := by decide +kernel
theorem dX5_open_25 : decode cX5_open 25 = .ok (.getfield 30, 3) := by decide +kernel
theorem dX5_open_28 : decode cX5_open 28 = .ok (.iload_n 3, 1) := by decide +kernel
theorem dX5_open_29 : decode cX5_open 29 = .ok (.baload, 1) := by decide +kernel
theorem dX5_open_30 : decode cX5_open 30 = .ok (.ifCond .eq 9, 3) := by decide +kernel
theorem dX5_open_33 : decode cX5_open 33 = .ok (.iinc 3 1, 3) := by decide +kernel
theorem dX5_open_36 : decode cX5_open 36 = .ok (.goto (-18), 3) := by decide +kernel
theorem dX5_open_39 : decode cX5_open 39 = .ok (.iload_n 3, 1) := by decide +kernel
theorem dX5_open_40 : decode cX5_open 40 = .ok (.bipush 8, 2) := by decide +kernel
theorem dX5_open_42 : decode cX5_open 42 = .ok (.if_icmp .ne 6, 3) := by decide +kernel
theorem dX5_open_45 : decode cX5_open 45 = .ok (.bipush (-6), 2) := by decide +kernel
theorem dX5_open_47 : decode cX5_open 47 = .ok (.ireturn, 1) := by decide +kernel
theorem dX5_open_48 : decode cX5_open 48 = .ok (.aload_n 0, 1) := by decide +kernel
theorem dX5_open_49 : decode cX5_open 49 = .ok (.getfield 30, 3) := by decide +kernel
theorem dX5_open_52 : decode cX5_open 52 = .ok (.iload_n 3, 1) := by decide +kernel
theorem dX5_open_53 : decode cX5_open 53 = .ok (.iconst 1, 1) := by decide +kernel
theorem dX5_open_54 : decode cX5_open 54 = .ok (.bastore, 1) := by decide +kernel
theorem dX5_open_55 : decode cX5_open 55 = .ok (.aload_n 0, 1) := by decide +kernel
theorem dX5_open_56 : decode cX5_open 56 = .ok (.getfield 33, 3) := by decide +kernel
theorem dX5_open_59 : decode cX5_open 59 = .ok (.iload_n 3, 1) := by decide +kernel
theorem dX5_open_60 : decode cX5_open 60 = .ok (.iconst 0, 1) := by decide +kernel
theorem dX5_open_61 : decode cX5_open 61 = .ok (.bastore, 1) := by decide +kernel
theorem dX5_open_62 : decode cX5_open 62 = .ok (.aload_n 0, 1) := by decide +kernel
theorem dX5_open_63 : decode cX5_open 63 = .ok (.getfield 36, 3) := by decide +kernel
theorem dX5_open_66 : decode cX5_open 66 = .ok (.iload_n 3, 1) := by decide +kernel
theorem dX5_open_67 : decode cX5_open 67 = .ok (.iload_n 1, 1) := by decide +kernel
theorem dX5_open_68 : decode cX5_open 68 = .ok (.iastore, 1) := by decide +kernel
theorem dX5_open_69 : decode cX5_open 69 = .ok (.aload_n 0, 1) := by decide +kernel
theorem dX5_open_70 : decode cX5_open 70 = .ok (.getfield 39, 3) := by decide +kernel
theorem dX5_open_73 : decode cX5_open 73 = .ok (.iload_n 3, 1) := by decide +kernel
theorem dX5_open_74 : decode cX5_open 74 = .ok (.iload_n 2, 1) := by decide +kernel
theorem dX5_open_75 : decode cX5_open 75 = .ok (.bastore, 1) := by decide +kernel
theorem dX5_open_76 : decode cX5_open 76 = .ok (.aload_n 0, 1) := by decide +kernel
theorem dX5_open_77 : decode cX5_open 77 = .ok (.getfield 42, 3) := by decide +kernel
theorem dX5_open_80 : decode cX5_open 80 = .ok (.iload_n 3, 1) := by decide +kernel
theorem dX5_open_81 : decode cX5_open 81 = .ok (.iconst (-1), 1) := by decide +kernel
theorem dX5_open_82 : decode cX5_open 82 = .ok (.iastore, 1) := by decide +kernel
theorem dX5_open_83 : decode cX5_open 83 = .ok (.aload_n 0, 1) := by decide +kernel
theorem dX5_open_84 : decode cX5_open 84 = .ok (.getfield 45, 3) := by decide +kernel
theorem dX5_open_87 : decode cX5_open 87 = .ok (.iload_n 3, 1) := by decide +kernel
theorem dX5_open_88 : decode cX5_open 88 = .ok (.iconst 0, 1) := by decide +kernel
theorem dX5_open_89 : decode cX5_open 89 = .ok (.iastore, 1) := by decide +kernel
theorem dX5_open_90 : decode cX5_open 90 = .ok (.iload_n 3, 1) := by decide +kernel
theorem dX5_open_91 : decode cX5_open 91 = .ok (.ireturn, 1) := by decide +kernel
theorem dX5_isIterator_0 : decode cX5_isIterator 0 = .ok (.iload_n 1, 1) := by decide +kernel
theorem dX5_isIterator_1 : decode cX5_isIterator 1 = .ok (.ifCond .lt 22, 3) := by decide +kernel
theorem dX5_isIterator_4 : decode cX5_isIterator 4 = .ok (.iload_n 1, 1) := by decide +kernel
theorem dX5_isIterator_5 : decode cX5_isIterator 5 = .ok (.bipush 8, 2) := by decide +kernel
theorem dX5_isIterator_7 : decode cX5_isIterator 7 = .ok (.if_icmp .ge 16, 3) := by decide +kernel
theorem dX5_isIterator_10 : decode cX5_isIterator 10 = .ok (.aload_n 0, 1) := by decide +kernel
theorem dX5_isIterator_11 : decode cX5_isIterator 11 = .ok (.getfield 30, 3) := by decide +kernel
theorem dX5_isIterator_14 : decode cX5_isIterator 14 = .ok (.iload_n 1, 1) := by decide +kernel
theorem dX5_isIterator_15 : decode cX5_isIterator 15 = .ok (.baload, 1) := by decide +kernel
theorem dX5_isIterator_16 : decode cX5_isIterator 16 = .ok (.ifCond .eq 7, 3) := by decide +kernel
theorem dX5_isIterator_19 : decode cX5_isIterator 19 = .ok (.iconst 1, 1) := by decide +kernel
theorem dX5_isIterator_20 : decode cX5_isIterator 20 = .ok (.goto 4, 3) := by decide +kernel
theorem dX5_isIterator_23 : decode cX5_isIterator 23 = .ok (.iconst 0, 1) := by decide +kernel
theorem dX5_isIterator_24 : decode cX5_isIterator 24 = .ok (.ireturn, 1) := by decide +kernel
set_option maxRecDepth 20000 in
theorem ggX5_next_X5_isIterator : GoodIn wsX5_next wsX5_isIterator := goodIn_r _ [12, 13, 34, 35, 36, 37, 38, 39, 40, 41, 42, 43, 44, 45, 46, 47, 48, 49, 50, 51, 52, 53] (by decide +kernel) (by decide +kernel)
set_option maxRecDepth 20000 in
theorem gX5_next_X5_isIterator : GoodIn wsX5_next (wsV RX5 118 RX5 yX5_isIterator wsX5_isIterator) := goodIn_app (goodIn_of _ (by decide +kernel)) ggX5_next_X5_isIterator
set_option maxRecDepth 20000 in
theorem ggX5_next_X5_isOf : GoodIn wsX5_next wsX5_isOf := goodIn_r _ [17, 18, 19, 20, 21, 22, 11, 23, 24, 25, 34, 35, 36, 37, 38, 39, 40, 41, 42, 43, 44, 45, 46, 47, 48, 49, 50, 51, 52, 53] (by decide +kernel) (by decide +kernel)
set_option maxRecDepth 20000 in
theorem gX5_next_X5_isOf : GoodIn wsX5_next (wsV RX5 94 RX5 yX5_isOf wsX5_isOf) := goodIn_app (goodIn_of _ (by decide +kernel)) ggX5_next_X5_isOf
set_option maxRecDepth 20000 in
theorem ggX5_next_X5_isAhead : GoodIn wsX5_next wsX5_isAhead := goodIn_r _ [29, 18, 30, 31, 32, 11, 33, 25, 24, 34, 35, 36, 37, 38, 39, 40, 41, 42, 43, 44, 45, 46, 47, 48, 49, 50, 51, 52, 53] (by decide +kernel) (by decide +kernel)
set_option maxRecDepth 20000 in
theorem gX5_next_X5_isAhead : GoodIn wsX5_next (wsV RX5 98 RX5 yX5_isAhead wsX5_isAhead) := goodIn_app (goodIn_of _ (by decide +kernel)) ggX5_next_X5_isAhead
theorem dX5_next_0 : decode cX5_next 0 = .ok (.aload_n 0, 1) := by decide +kernel
theorem dX5_next_1 : decode cX5_next 1 = .ok (.iconst 0, 1) := by decide +kernel
theorem dX5_next_2 : decode cX5_next 2 = .ok (.putfield 1, 3) := by decide +kernel
theorem dX5_next_5 : decode cX5_next 5 = .ok (.aload_n 0, 1) := by decide +kernel
theorem dX5_next_6 : decode cX5_next 6 = .ok (.iload_n 1, 1) := by decide +kernel
theorem dX5_next_7 : decode cX5_next 7 = .ok (.invokevirtual 118, 3) := by decide +kernel
theorem dX5_next_10 : decode cX5_next 10 = .ok (.ifCond .ne 6, 3) := by decide +kernel
theorem dX5_next_13 : decode cX5_next 13 = .ok (.bipush (-2), 2) := by decide +kernel
theorem dX5_next_15 : decode cX5_next 15 = .ok (.ireturn, 1) := by decide +kernel
theorem dX5_next_16 : decode cX5_next 16 = .ok (.aload_n 0, 1) := by decide +kernel
theorem dX5_next_17 : decode cX5_next 17 = .ok (.getfield 33, 3) := by decide +kernel
theorem dX5_next_20 : decode cX5_next 20 = .ok (.iload_n 1, 1) := by decide +kernel
theorem dX5_next_21 : decode cX5_next 21 = .ok (.baload, 1) := by decide +kernel
theorem dX5_next_22 : decode cX5_next 22 = .ok (.ifCond .eq 6, 3) := by decide +kernel
theorem dX5_next_25 : decode cX5_next 25 = .ok (.bipush (-4), 2) := by decide +kernel
theorem dX5_next_27 : decode cX5_next 27 = .ok (.ireturn, 1) := by decide +kernel
theorem dX5_next_28 : decode cX5_next 28 = .ok (.iconst (-1), 1) := by decide +kernel
theorem dX5_next_29 : decode cX5_next 29 = .ok (.istore_n 2, 1) := by decide +kernel
theorem dX5_next_30 : decode cX5_next 30 = .ok (.iconst 0, 1) := by decide +kernel
theorem dX5_next_31 : decode cX5_next 31 = .ok (.istore_n 3, 1) := by decide +kernel
theorem dX5_next_32 : decode cX5_next 32 = .ok (.iload_n 3, 1) := by decide +kernel
theorem dX5_next_33 : decode cX5_next 33 = .ok (.aload_n 0, 1) := by decide +kernel
theorem dX5_next_34 : decode cX5_next 34 = .ok (.getfield 67, 3) := by decide +kernel
theorem dX5_next_37 : decode cX5_next 37 = .ok (.if_icmp .ge 94, 3) := by decide +kernel
theorem dX5_next_40 : decode cX5_next 40 = .ok (.aload_n 0, 1) := by decide +kernel
theorem dX5_next_41 : decode cX5_next 41 = .ok (.iload_n 3, 1) := by decide +kernel
theorem dX5_next_42 : decode cX5_next 42 = .ok (.aload_n 0, 1) := by decide +kernel
theorem dX5_next_43 : decode cX5_next 43 = .ok (.getfield 36, 3) := by decide +kernel
theorem dX5_next_46 : decode cX5_next 46 = .ok (.iload_n 1, 1) := by decide +kernel
theorem dX5_next_47 : decode cX5_next 47 = .ok (.iaload, 1) := by decide +kernel
theorem dX5_next_48 : decode cX5_next 48 = .ok (.aload_n 0, 1) := by decide +kernel
theorem dX5_next_49 : decode cX5_next 49 = .ok (.getfield 39, 3) := by decide +kernel
theorem dX5_next_52 : decode cX5_next 52 = .ok (.iload_n 1, 1) := by decide +kernel
theorem dX5_next_53 : decode cX5_next 53 = .ok (.baload, 1) := by decide +kernel
theorem dX5_next_54 : decode cX5_next 54 = .ok (.iconst 1, 1) := by decide +kernel
theorem dX5_next_55 : decode cX5_next 55 = .ok (.invokevirtual 94, 3) := by decide +kernel
theorem dX5_next_58 : decode cX5_next 58 = .ok (.ifCond .eq 37, 3) := by decide +kernel
theorem dX5_next_61 : decode cX5_next 61 = .ok (.aload_n 0, 1) := by decide +kernel
theorem dX5_next_62 : decode cX5_next 62 = .ok (.getfield 42, 3) := by decide +kernel
theorem dX5_next_65 : decode cX5_next 65 = .ok (.iload_n 1, 1) := by decide +kernel
theorem dX5_next_66 : decode cX5_next 66 = .ok (.iaload, 1) := by decide +kernel
theorem dX5_next_67 : decode cX5_next 67 = .ok (.iconst (-1), 1) := by decide +kernel
theorem dX5_next_68 : decode cX5_next 68 = .ok (.if_icmp .eq 23, 3) := by decide +kernel
theorem dX5_next_71 : decode cX5_next 71 = .ok (.aload_n 0, 1) := by decide +kernel
theorem dX5_next_72 : decode cX5_next 72 = .ok (.aload_n 0, 1) := by decide +kernel
theorem dX5_next_73 : decode cX5_next 73 = .ok (.getfield 42, 3) := by decide +kernel
theorem dX5_next_76 : decode cX5_next 76 = .ok (.iload_n 1, 1) := by decide +kernel
theorem dX5_next_77 : decode cX5_next 77 = .ok (.iaload, 1) := by decide +kernel
theorem dX5_next_78 : decode cX5_next 78 = .ok (.iload_n 3, 1) := by decide +kernel
theorem dX5_next_79 : decode cX5_next 79 = .ok (.aload_n 0, 1) := by decide +kernel
theorem dX5_next_80 : decode cX5_next 80 = .ok (.getfield 39, 3) := by decide +kernel
theorem dX5_next_83 : decode cX5_next 83 = .ok (.iload_n 1, 1) := by decide +kernel
theorem dX5_next_84 : decode cX5_next 84 = .ok (.baload, 1) := by decide +kernel
theorem dX5_next_85 : decode cX5_next 85 = .ok (.invokevirtual 98, 3) := by decide +kernel
theorem dX5_next_88 : decode cX5_next 88 = .ok (.ifCond .eq 7, 3) := by decide +kernel
theorem dX5_next_91 : decode cX5_next 91 = .ok (.iconst 1, 1) := by decide +kernel
theorem dX5_next_92 : decode cX5_next 92 = .ok (.goto 4, 3) := by decide +kernel
theorem dX5_next_95 : decode cX5_next 95 = .ok (.iconst 0, 1) := by decide +kernel
theorem dX5_next_96 : decode cX5_next 96 = .ok (.istore 4, 2) := by decide +kernel
theorem dX5_next_98 : decode cX5_next 98 = .ok (.iload 4, 2) := by decide +kernel
theorem dX5_next_100 : decode cX5_next 100 = .ok (.ifCond .eq 25, 3) := by decide +kernel
theorem dX5_next_103 : decode cX5_next 103 = .ok (.iload_n 2, 1) := by decide +kernel
theorem dX5_next_104 : decode cX5_next 104 = .ok (.iconst (-1), 1) := by decide +kernel
theorem dX5_next_105 : decode cX5_next 105 = .ok (.if_icmp .eq 18, 3) := by decide +kernel
theorem dX5_next_108 : decode cX5_next 108 = .ok (.aload_n 0, 1) := by decide +kernel
theorem dX5_next_109 : decode cX5_next 109 = .ok (.iload_n 3, 1) := by decide +kernel
theorem dX5_next_110 : decode cX5_next 110 = .ok (.iload_n 2, 1) := by decide +kernel
theorem dX5_next_111 : decode cX5_next 111 = .ok (.aload_n 0, 1) := by decide +kernel
theorem dX5_next_112 : decode cX5_next 112 = .ok (.getfield 39, 3) := by decide +kernel
theorem dX5_next_115 : decode cX5_next 115 = .ok (.iload_n 1, 1) := by decide +kernel
theorem dX5_next_116 : decode cX5_next 116 = .ok (.baload, 1) := by decide +kernel
theorem dX5_next_117 : decode cX5_next 117 = .ok (.invokevirtual 98, 3) := by decide +kernel
theorem dX5_next_120 : decode cX5_next 120 = .ok (.ifCond .eq 5, 3) := by decide +kernel
theorem dX5_next_123 : decode cX5_next 123 = .ok (.iload_n 3, 1) := by decide +kernel
theorem dX5_next_124 : decode cX5_next 124 = .ok (.istore_n 2, 1) := by decide +kernel
theorem dX5_next_125 : decode cX5_next 125 = .ok (.iinc 3 1, 3) := by decide +kernel
theorem dX5_next_128 : decode cX5_next 128 = .ok (.goto (-96), 3) := by decide +kernel
theorem dX5_next_131 : decode cX5_next 131 = .ok (.iload_n 2, 1) := by decide +kernel
theorem dX5_next_132 : decode cX5_next 132 = .ok (.iconst (-1), 1) := by decide +kernel
theorem dX5_next_133 : decode cX5_next 133 = .ok (.if_icmp .eq 20, 3) := by decide +kernel
theorem dX5_next_136 : decode cX5_next 136 = .ok (.aload_n 0, 1) := by decide +kernel
theorem dX5_next_137 : decode cX5_next 137 = .ok (.getfield 42, 3) := by decide +kernel
theorem dX5_next_140 : decode cX5_next 140 = .ok (.iload_n 1, 1) := by decide +kernel
theorem dX5_next_141 : decode cX5_next 141 = .ok (.iload_n 2, 1) := by decide +kernel
theorem dX5_next_142 : decode cX5_next 142 = .ok (.iastore, 1) := by decide +kernel
theorem dX5_next_143 : decode cX5_next 143 = .ok (.aload_n 0, 1) := by decide +kernel
theorem dX5_next_144 : decode cX5_next 144 = .ok (.getfield 45, 3) := by decide +kernel
theorem dX5_next_147 : decode cX5_next 147 = .ok (.iload_n 1, 1) := by decide +kernel
theorem dX5_next_148 : decode cX5_next 148 = .ok (.dup2, 1) := by decide +kernel
theorem dX5_next_149 : decode cX5_next 149 = .ok (.iaload, 1) := by decide +kernel
theorem dX5_next_150 : decode cX5_next 150 = .ok (.iconst 1, 1) := by decide +kernel
theorem dX5_next_151 : decode cX5_next 151 = .ok (.iadd, 1) := by decide +kernel
theorem dX5_next_152 : decode cX5_next 152 = .ok (.iastore, 1) := by decide +kernel
theorem dX5_next_153 : decode cX5_next 153 = .ok (.iload_n 2, 1) := by decide +kernel
theorem dX5_next_154 : decode cX5_next 154 = .ok (.ireturn, 1) := by decide +kernel
set_option maxRecDepth 20000 in
theorem ggX5_close_X5_isIterator : GoodIn wsX5_close wsX5_isIterator := goodIn_r _ [8, 2, 9, 10, 11, 12, 13, 14, 15, 16, 17, 18, 19, 20, 21, 22, 23, 24, 25, 26, 27, 28] (by decide +kernel) (by decide +kernel)
set_option maxRecDepth 20000 in
theorem gX5_close_X5_isIterator : GoodIn wsX5_close (wsV RX5 118 RX5 yX5_isIterator wsX5_isIterator) := goodIn_app (goodIn_of _ (by decide +kernel)) ggX5_close_X5_isIterator
theorem dX5_close_0 : decode cX5_close 0 = .ok (.aload_n 0, 1) := by decide +kernel
theorem dX5_close_1 : decode cX5_close 1 = .ok (.iconst 0, 1) := by decide +kernel
theorem dX5_close_2 : decode cX5_close 2 = .ok (.putfield 1, 3) := by decide +kernel
theorem dX5_close_5 : decode cX5_close 5 = .ok (.aload_n 0, 1) := by decide +kernel
theorem dX5_close_6 : decode cX5_close 6 = .ok (.iload_n 1, 1) := by decide +kernel
theorem dX5_close_7 : decode cX5_close 7 = .ok (.invokevirtual 118, 3) := by decide +kernel
theorem dX5_close_10 : decode cX5_close 10 = .ok (.ifCond .ne 6, 3) := by decide +kernel
theorem dX5_close_13 : decode cX5_close 13 = .ok (.bipush (-2), 2) := by decide +kernel
theorem dX5_close_15 : decode cX5_close 15 = .ok (.ireturn, 1) := by decide +kernel
theorem dX5_close_16 : decode cX5_close 16 = .ok (.aload_n 0, 1) := by decide +kernel
theorem dX5_close_17 : decode cX5_close 17 = .ok (.getfield 30, 3) := by decide +kernel
theorem dX5_close_20 : decode cX5_close 20 = .ok (.iload_n 1, 1) := by decide +kernel
theorem dX5_close_21 : decode cX5_close 21 = .ok (.iconst 0, 1) := by decide +kernel
theorem dX5_close_22 : decode cX5_close 22 = .ok (.bastore, 1) := by decide +kernel
theorem dX5_close_23 : decode cX5_close 23 = .ok (.aload_n 0, 1) := by decide +kernel
theorem dX5_close_24 : decode cX5_close 24 = .ok (.getfield 45, 3) := by decide +kernel
theorem dX5_close_27 : decode cX5_close 27 = .ok (.iload_n 1, 1) := by decide +kernel
theorem dX5_close_28 : decode cX5_close 28 = .ok (.iaload, 1) := by decide +kernel
theorem dX5_close_29 : decode cX5_close 29 = .ok (.ireturn, 1) := by decide +kernel
theorem dX5_give_0 : decode cX5_give 0 = .ok (.aload_n 0, 1) := by decide +kernel
theorem dX5_give_1 : decode cX5_give 1 = .ok (.iconst 0, 1) := by decide +kernel
theorem dX5_give_2 : decode cX5_give 2 = .ok (.putfield 1, 3) := by decide +kernel
theorem dX5_give_5 : decode cX5_give 5 = .ok (.iload_n 2, 1) := by decide +kernel
theorem dX5_give_6 : decode cX5_give 6 = .ok (.ifCond .lt 19, 3) := by decide +kernel
theorem dX5_give_9 : decode cX5_give 9 = .ok (.iload_n 2, 1) := by decide +kernel
theorem dX5_give_10 : decode cX5_give 10 = .ok (.iload_n 1, 1) := by decide +kernel
theorem dX5_give_11 : decode cX5_give 11 = .ok (.ifCond .eq 9, 3) := by decide +kernel
theorem dX5_give_14 : decode cX5_give 14 = .ok (.sipush 160, 3) := by decide +kernel
theorem dX5_give_17 : decode cX5_give 17 = .ok (.goto 5, 3) := by decide +kernel
theorem dX5_give_20 : decode cX5_give 20 = .ok (.bipush 25, 2) := by decide +kernel
theorem dX5_give_22 : decode cX5_give 22 = .ok (.if_icmp .lt 6, 3) := by decide +kernel
theorem dX5_give_25 : decode cX5_give 25 = .ok (.bipush (-3), 2) := by decide +kernel
theorem dX5_give_27 : decode cX5_give 27 = .ok (.ireturn, 1) := by decide +kernel
theorem dX5_give_28 : decode cX5_give 28 = .ok (.iload_n 1, 1) := by decide +kernel
theorem dX5_give_29 : decode cX5_give 29 = .ok (.ifCond .eq 12, 3) := by decide +kernel
theorem dX5_give_32 : decode cX5_give 32 = .ok (.aload_n 0, 1) := by decide +kernel
theorem dX5_give_33 : decode cX5_give 33 = .ok (.getfield 51, 3) := by decide +kernel
theorem dX5_give_36 : decode cX5_give 36 = .ok (.iload_n 2, 1) := by decide +kernel
theorem dX5_give_37 : decode cX5_give 37 = .ok (.iaload, 1) := by decide +kernel
theorem dX5_give_38 : decode cX5_give 38 = .ok (.goto 9, 3) := by decide +kernel
theorem dX5_give_41 : decode cX5_give 41 = .ok (.aload_n 0, 1) := by decide +kernel
theorem dX5_give_42 : decode cX5_give 42 = .ok (.getfield 48, 3) := by decide +kernel
theorem dX5_give_45 : decode cX5_give 45 = .ok (.iload_n 2, 1) := by decide +kernel
theorem dX5_give_46 : decode cX5_give 46 = .ok (.iaload, 1) := by decide +kernel
theorem dX5_give_47 : decode cX5_give 47 = .ok (.istore 4, 2) := by decide +kernel
theorem dX5_give_49 : decode cX5_give 49 = .ok (.iload_n 1, 1) := by decide +kernel
theorem dX5_give_50 : decode cX5_give 50 = .ok (.ifCond .eq 13, 3) := by decide +kernel
theorem dX5_give_53 : decode cX5_give 53 = .ok (.aload_n 0, 1) := by decide +kernel
theorem dX5_give_54 : decode cX5_give 54 = .ok (.getfield 51, 3) := by decide +kernel
theorem dX5_give_57 : decode cX5_give 57 = .ok (.iload_n 2, 1) := by decide +kernel
theorem dX5_give_58 : decode cX5_give 58 = .ok (.iload_n 3, 1) := by decide +kernel
theorem dX5_give_59 : decode cX5_give 59 = .ok (.iastore, 1) := by decide +kernel
theorem dX5_give_60 : decode cX5_give 60 = .ok (.goto 10, 3) := by decide +kernel
theorem dX5_give_63 : decode cX5_give 63 = .ok (.aload_n 0, 1) := by decide +kernel
theorem dX5_give_64 : decode cX5_give 64 = .ok (.getfield 48, 3) := by decide +kernel
theorem dX5_give_67 : decode cX5_give 67 = .ok (.iload_n 2, 1) := by decide +kernel
theorem dX5_give_68 : decode cX5_give 68 = .ok (.iload_n 3, 1) := by decide +kernel
theorem dX5_give_69 : decode cX5_give 69 = .ok (.iastore, 1) := by decide +kernel
theorem dX5_give_70 : decode cX5_give 70 = .ok (.iload 4, 2) := by decide +kernel
theorem dX5_give_72 : decode cX5_give 72 = .ok (.ireturn, 1) := by decide +kernel
set_option maxRecDepth 20000 in
theorem ggX5_judged_X5_isNode : GoodIn wsX5_judged wsX5_isNode := goodIn_r _ [8, 1, 9, 10, 11, 12, 13, 14, 15, 16, 17, 18, 19, 20, 21, 22, 23, 24, 25, 26, 27, 28] (by decide +kernel) (by decide +kernel)
set_option maxRecDepth 20000 in
theorem gX5_judged_X5_isNode : GoodIn wsX5_judged (wsV RX5 70 RX5 yX5_isNode wsX5_isNode) := goodIn_app (goodIn_of _ (by decide +kernel)) ggX5_judged_X5_isNode
theorem dX5_judged_0 : decode cX5_judged 0 = .ok (.iconst 0, 1) := by decide +kernel
theorem dX5_judged_1 : decode cX5_judged 1 = .ok (.istore_n 2, 1) := by decide +kernel
theorem dX5_judged_2 : decode cX5_judged 2 = .ok (.iload_n 2, 1) := by decide +kernel
theorem dX5_judged_3 : decode cX5_judged 3 = .ok (.aload_n 0, 1) := by decide +kernel
theorem dX5_judged_4 : decode cX5_judged 4 = .ok (.getfield 64, 3) := by decide +kernel
theorem dX5_judged_7 : decode cX5_judged 7 = .ok (.if_icmp .gt 73, 3) := by decide +kernel
theorem dX5_judged_10 : decode cX5_judged 10 = .ok (.aload_n 0, 1) := by decide +kernel
theorem dX5_judged_11 : decode cX5_judged 11 = .ok (.getfield 48, 3) := by decide +kernel
theorem dX5_judged_14 : decode cX5_judged 14 = .ok (.iload_n 2, 1) := by decide +kernel
theorem dX5_judged_15 : decode cX5_judged 15 = .ok (.iaload, 1) := by decide +kernel
theorem dX5_judged_16 : decode cX5_judged 16 = .ok (.istore_n 3, 1) := by decide +kernel
theorem dX5_judged_17 : decode cX5_judged 17 = .ok (.iload_n 2, 1) := by decide +kernel
theorem dX5_judged_18 : decode cX5_judged 18 = .ok (.ifCond .ne 10, 3) := by decide +kernel
theorem dX5_judged_21 : decode cX5_judged 21 = .ok (.iload_n 3, 1) := by decide +kernel
theorem dX5_judged_22 : decode cX5_judged 22 = .ok (.ifCond .ne 40, 3) := by decide +kernel
theorem dX5_judged_25 : decode cX5_judged 25 = .ok (.goto 15, 3) := by decide +kernel
theorem dX5_judged_28 : decode cX5_judged 28 = .ok (.iload_n 3, 1) := by decide +kernel
theorem dX5_judged_29 : decode cX5_judged 29 = .ok (.aload_n 0, 1) := by decide +kernel
theorem dX5_judged_30 : decode cX5_judged 30 = .ok (.getfield 48, 3) := by decide +kernel
theorem dX5_judged_33 : decode cX5_judged 33 = .ok (.iload_n 2, 1) := by decide +kernel
theorem dX5_judged_34 : decode cX5_judged 34 = .ok (.iconst 1, 1) := by decide +kernel
theorem dX5_judged_35 : decode cX5_judged 35 = .ok (.isub, 1) := by decide +kernel
theorem dX5_judged_36 : decode cX5_judged 36 = .ok (.iaload, 1) := by decide +kernel
theorem dX5_judged_37 : decode cX5_judged 37 = .ok (.if_icmp .lt 25, 3) := by decide +kernel
theorem dX5_judged_40 : decode cX5_judged 40 = .ok (.iload_n 3, 1) := by decide +kernel
theorem dX5_judged_41 : decode cX5_judged 41 = .ok (.iload_n 1, 1) := by decide +kernel
theorem dX5_judged_42 : decode cX5_judged 42 = .ok (.if_icmp .gt 20, 3) := by decide +kernel
theorem dX5_judged_45 : decode cX5_judged 45 = .ok (.iload_n 2, 1) := by decide +kernel
theorem dX5_judged_46 : decode cX5_judged 46 = .ok (.aload_n 0, 1) := by decide +kernel
theorem dX5_judged_47 : decode cX5_judged 47 = .ok (.getfield 64, 3) := by decide +kernel
theorem dX5_judged_50 : decode cX5_judged 50 = .ok (.if_icmp .lt 8, 3) := by decide +kernel
theorem dX5_judged_53 : decode cX5_judged 53 = .ok (.iload_n 3, 1) := by decide +kernel
theorem dX5_judged_54 : decode cX5_judged 54 = .ok (.iload_n 1, 1) := by decide +kernel
theorem dX5_judged_55 : decode cX5_judged 55 = .ok (.if_icmp .ne 7, 3) := by decide +kernel
theorem dX5_judged_58 : decode cX5_judged 58 = .ok (.iconst 1, 1) := by decide +kernel
theorem dX5_judged_59 : decode cX5_judged 59 = .ok (.goto 4, 3) := by decide +kernel
theorem dX5_judged_62 : decode cX5_judged 62 = .ok (.iconst 0, 1) := by decide +kernel
theorem dX5_judged_63 : decode cX5_judged 63 = .ok (.istore 4, 2) := by decide +kernel
theorem dX5_judged_65 : decode cX5_judged 65 = .ok (.iload 4, 2) := by decide +kernel
theorem dX5_judged_67 : decode cX5_judged 67 = .ok (.ifCond .ne 7, 3) := by decide +kernel
theorem dX5_judged_70 : decode cX5_judged 70 = .ok (.iconst 1, 1) := by decide +kernel
theorem dX5_judged_71 : decode cX5_judged 71 = .ok (.iload_n 2, 1) := by decide +kernel
theorem dX5_judged_72 : decode cX5_judged 72 = .ok (.iadd, 1) := by decide +kernel
theorem dX5_judged_73 : decode cX5_judged 73 = .ok (.ireturn, 1) := by decide +kernel
theorem dX5_judged_74 : decode cX5_judged 74 = .ok (.iinc 2 1, 3) := by decide +kernel
theorem dX5_judged_77 : decode cX5_judged 77 = .ok (.goto (-75), 3) := by decide +kernel
theorem dX5_judged_80 : decode cX5_judged 80 = .ok (.iconst 0, 1) := by decide +kernel
theorem dX5_judged_81 : decode cX5_judged 81 = .ok (.istore_n 2, 1) := by decide +kernel
theorem dX5_judged_82 : decode cX5_judged 82 = .ok (.iload_n 2, 1) := by decide +kernel
theorem dX5_judged_83 : decode cX5_judged 83 = .ok (.iload_n 1, 1) := by decide +kernel
theorem dX5_judged_84 : decode cX5_judged 84 = .ok (.if_icmp .ge 27, 3) := by decide +kernel
theorem dX5_judged_87 : decode cX5_judged 87 = .ok (.aload_n 0, 1) := by decide +kernel
theorem dX5_judged_88 : decode cX5_judged 88 = .ok (.aload_n 0, 1) := by decide +kernel
theorem dX5_judged_89 : decode cX5_judged 89 = .ok (.getfield 51, 3) := by decide +kernel
theorem dX5_judged_92 : decode cX5_judged 92 = .ok (.iload_n 2, 1) := by decide +kernel
theorem dX5_judged_93 : decode cX5_judged 93 = .ok (.iaload, 1) := by decide +kernel
theorem dX5_judged_94 : decode cX5_judged 94 = .ok (.invokevirtual 70, 3) := by decide +kernel
theorem dX5_judged_97 : decode cX5_judged 97 = .ok (.ifCond .ne 8, 3) := by decide +kernel
theorem dX5_judged_100 : decode cX5_judged 100 = .ok (.bipush 100, 2) := by decide +kernel
theorem dX5_judged_102 : decode cX5_judged 102 = .ok (.iload_n 2, 1) := by decide +kernel
theorem dX5_judged_103 : decode cX5_judged 103 = .ok (.iadd, 1) := by decide +kernel
theorem dX5_judged_104 : decode cX5_judged 104 = .ok (.ireturn, 1) := by decide +kernel
theorem dX5_judged_105 : decode cX5_judged 105 = .ok (.iinc 2 1, 3) := by decide +kernel
theorem dX5_judged_108 : decode cX5_judged 108 = .ok (.goto (-26), 3) := by decide +kernel
theorem dX5_judged_111 : decode cX5_judged 111 = .ok (.iconst 0, 1) := by decide +kernel
theorem dX5_judged_112 : decode cX5_judged 112 = .ok (.ireturn, 1) := by decide +kernel
set_option maxRecDepth 20000 in
theorem ggX5_load_X5_judged : GoodIn wsX5_load wsX5_judged := goodIn_r _ [14, 15, 2, 5, 16, 17, 18, 13, 19, 25, 26, 27, 28, 29, 30, 31, 32, 33, 34, 35, 36, 37, 38, 39, 40, 41, 42, 43, 44] (by decide +kernel) (by decide +kernel)
set_option maxRecDepth 20000 in
theorem gX5_load_X5_judged : GoodIn wsX5_load (wsV RX5 121 RX5 yX5_judged wsX5_judged) := goodIn_app (goodIn_of _ (by decide +kernel)) ggX5_load_X5_judged
set_option maxRecDepth 20000 in
theorem ggX5_load_X5_stale : GoodIn wsX5_load wsX5_stale := goodIn_r _ [23, 24, 25, 26, 27, 28, 29, 30, 31, 32, 33, 34, 35, 36, 37, 38, 39, 40, 41, 42, 43, 44] (by decide +kernel) (by decide +kernel)
set_option maxRecDepth 20000 in
theorem gX5_load_X5_stale : GoodIn wsX5_load (wsV RX5 77 RX5 yX5_stale wsX5_stale) := goodIn_app (goodIn_of _ (by decide +kernel)) ggX5_load_X5_stale
theorem dX5_load_0 : decode cX5_load 0 = .ok (.aload_n 0, 1) := by decide +kernel
theorem dX5_load_1 : decode cX5_load 1 = .ok (.iconst 0, 1) := by decide +kernel
theorem dX5_load_2 : decode cX5_load 2 = .ok (.putfield 1, 3) := by decide +kernel
theorem dX5_load_5 : decode cX5_load 5 = .ok (.iload_n 1, 1) := by decide +kernel
theorem dX5_load_6 : decode cX5_load 6 = .ok (.ifCond .lt 10, 3) := by decide +kernel
theorem dX5_load_9 : decode cX5_load 9 = .ok (.iload_n 1, 1) := by decide +kernel
theorem dX5_load_10 : decode cX5_load 10 = .ok (.sipush 160, 3) := by decide +kernel
theorem dX5_load_13 : decode cX5_load 13 = .ok (.if_icmp .le 6, 3) := by decide +kernel
theorem dX5_load_16 : decode cX5_load 16 = .ok (.bipush (-3), 2) := by decide +kernel
theorem dX5_load_18 : decode cX5_load 18 = .ok (.ireturn, 1) := by decide +kernel
theorem dX5_load_19 : decode cX5_load 19 = .ok (.aload_n 0, 1) := by decide +kernel
theorem dX5_load_20 : decode cX5_load 20 = .ok (.iload_n 1, 1) := by decide +kernel
theorem dX5_load_21 : decode cX5_load 21 = .ok (.invokevirtual 121, 3) := by decide +kernel
theorem dX5_load_24 : decode cX5_load 24 = .ok (.istore_n 2, 1) := by decide +kernel
theorem dX5_load_25 : decode cX5_load 25 = .ok (.iload_n 2, 1) := by decide +kernel
theorem dX5_load_26 : decode cX5_load 26 = .ok (.ifCond .eq 5, 3) := by decide +kernel
theorem dX5_load_29 : decode cX5_load 29 = .ok (.iload_n 2, 1) := by decide +kernel
theorem dX5_load_30 : decode cX5_load 30 = .ok (.ireturn, 1) := by decide +kernel
theorem dX5_load_31 : decode cX5_load 31 = .ok (.iconst 0, 1) := by decide +kernel
theorem dX5_load_32 : decode cX5_load 32 = .ok (.istore_n 3, 1) := by decide +kernel
theorem dX5_load_33 : decode cX5_load 33 = .ok (.iload_n 3, 1) := by decide +kernel
theorem dX5_load_34 : decode cX5_load 34 = .ok (.iload_n 1, 1) := by decide +kernel
theorem dX5_load_35 : decode cX5_load 35 = .ok (.if_icmp .ge 65, 3) := by decide +kernel
theorem dX5_load_38 : decode cX5_load 38 = .ok (.iconst 0, 1) := by decide +kernel
theorem dX5_load_39 : decode cX5_load 39 = .ok (.istore 4, 2) := by decide +kernel
theorem dX5_load_41 : decode cX5_load 41 = .ok (.aload_n 0, 1) := by decide +kernel
theorem dX5_load_42 : decode cX5_load 42 = .ok (.getfield 48, 3) := by decide +kernel
theorem dX5_load_45 : decode cX5_load 45 = .ok (.iload 4, 2) := by decide +kernel
theorem dX5_load_47 : decode cX5_load 47 = .ok (.iconst 1, 1) := by decide +kernel
theorem dX5_load_48 : decode cX5_load 48 = .ok (.iadd, 1) := by decide +kernel
theorem dX5_load_49 : decode cX5_load 49 = .ok (.iaload, 1) := by decide +kernel
theorem dX5_load_50 : decode cX5_load 50 = .ok (.iload_n 3, 1) := by decide +kernel
theorem dX5_load_51 : decode cX5_load 51 = .ok (.if_icmp .gt 9, 3) := by decide +kernel
theorem dX5_load_54 : decode cX5_load 54 = .ok (.iinc 4 1, 3) := by decide +kernel
theorem dX5_load_57 : decode cX5_load 57 = .ok (.goto (-16), 3) := by decide +kernel
theorem dX5_load_60 : decode cX5_load 60 = .ok (.aload_n 0, 1) := by decide +kernel
theorem dX5_load_61 : decode cX5_load 61 = .ok (.getfield 13, 3) := by decide +kernel
theorem dX5_load_64 : decode cX5_load 64 = .ok (.iload_n 3, 1) := by decide +kernel
theorem dX5_load_65 : decode cX5_load 65 = .ok (.iload 4, 2) := by decide +kernel
theorem dX5_load_67 : decode cX5_load 67 = .ok (.iastore, 1) := by decide +kernel
theorem dX5_load_68 : decode cX5_load 68 = .ok (.aload_n 0, 1) := by decide +kernel
theorem dX5_load_69 : decode cX5_load 69 = .ok (.getfield 17, 3) := by decide +kernel
theorem dX5_load_72 : decode cX5_load 72 = .ok (.iload_n 3, 1) := by decide +kernel
theorem dX5_load_73 : decode cX5_load 73 = .ok (.aload_n 0, 1) := by decide +kernel
theorem dX5_load_74 : decode cX5_load 74 = .ok (.getfield 51, 3) := by decide +kernel
theorem dX5_load_77 : decode cX5_load 77 = .ok (.iload_n 3, 1) := by decide +kernel
theorem dX5_load_78 : decode cX5_load 78 = .ok (.iaload, 1) := by decide +kernel
theorem dX5_load_79 : decode cX5_load 79 = .ok (.iastore, 1) := by decide +kernel
theorem dX5_load_80 : decode cX5_load 80 = .ok (.aload_n 0, 1) := by decide +kernel
theorem dX5_load_81 : decode cX5_load 81 = .ok (.getfield 20, 3) := by decide +kernel
theorem dX5_load_84 : decode cX5_load 84 = .ok (.iload_n 3, 1) := by decide +kernel
theorem dX5_load_85 : decode cX5_load 85 = .ok (.iconst 1, 1) := by decide +kernel
theorem dX5_load_86 : decode cX5_load 86 = .ok (.iastore, 1) := by decide +kernel
theorem dX5_load_87 : decode cX5_load 87 = .ok (.aload_n 0, 1) := by decide +kernel
theorem dX5_load_88 : decode cX5_load 88 = .ok (.getfield 23, 3) := by decide +kernel
theorem dX5_load_91 : decode cX5_load 91 = .ok (.iload_n 3, 1) := by decide +kernel
theorem dX5_load_92 : decode cX5_load 92 = .ok (.iconst 0, 1) := by decide +kernel
theorem dX5_load_93 : decode cX5_load 93 = .ok (.bastore, 1) := by decide +kernel
theorem dX5_load_94 : decode cX5_load 94 = .ok (.iinc 3 1, 3) := by decide +kernel
theorem dX5_load_97 : decode cX5_load 97 = .ok (.goto (-64), 3) := by decide +kernel
theorem dX5_load_100 : decode cX5_load 100 = .ok (.aload_n 0, 1) := by decide +kernel
theorem dX5_load_101 : decode cX5_load 101 = .ok (.iload_n 1, 1) := by decide +kernel
theorem dX5_load_102 : decode cX5_load 102 = .ok (.putfield 67, 3) := by decide +kernel
theorem dX5_load_105 : decode cX5_load 105 = .ok (.aload_n 0, 1) := by decide +kernel
theorem dX5_load_106 : decode cX5_load 106 = .ok (.iconst 0, 1) := by decide +kernel
theorem dX5_load_107 : decode cX5_load 107 = .ok (.putfield 84, 3) := by decide +kernel
theorem dX5_load_110 : decode cX5_load 110 = .ok (.aload_n 0, 1) := by decide +kernel
theorem dX5_load_111 : decode cX5_load 111 = .ok (.invokevirtual 77, 3) := by decide +kernel
theorem dX5_load_114 : decode cX5_load 114 = .ok (.iconst 0, 1) := by decide +kernel
theorem dX5_load_115 : decode cX5_load 115 = .ok (.ireturn, 1) := by decide +kernel
theorem dX5_about_0 : decode cX5_about 0 = .ok (.aload_n 0, 1) := by decide +kernel
theorem dX5_about_1 : decode cX5_about 1 = .ok (.iconst 0, 1) := by decide +kernel
theorem dX5_about_2 : decode cX5_about 2 = .ok (.putfield 1, 3) := by decide +kernel
theorem dX5_about_5 : decode cX5_about 5 = .ok (.iconst 0, 1) := by decide +kernel
theorem dX5_about_6 : decode cX5_about 6 = .ok (.istore_n 2, 1) := by decide +kernel
theorem dX5_about_7 : decode cX5_about 7 = .ok (.iload_n 1, 1) := by decide +kernel
theorem dX5_about_8 : decode cX5_about 8 = .ok (.lookupswitch 79 #[(0, 36), (1, 41), (5, 46)], 36) := by decide +kernel
theorem dX5_about_44 : decode cX5_about 44 = .ok (.aload_n 0, 1) := by decide +kernel
theorem dX5_about_45 : decode cX5_about 45 = .ok (.getfield 64, 3) := by decide +kernel
theorem dX5_about_48 : decode cX5_about 48 = .ok (.ireturn, 1) := by decide +kernel
theorem dX5_about_49 : decode cX5_about 49 = .ok (.aload_n 0, 1) := by decide +kernel
theorem dX5_about_50 : decode cX5_about 50 = .ok (.getfield 67, 3) := by decide +kernel
theorem dX5_about_53 : decode cX5_about 53 = .ok (.ireturn, 1) := by decide +kernel
theorem dX5_about_54 : decode cX5_about 54 = .ok (.iconst 0, 1) := by decide +kernel
theorem dX5_about_55 : decode cX5_about 55 = .ok (.istore_n 3, 1) := by decide +kernel
theorem dX5_about_56 : decode cX5_about 56 = .ok (.iload_n 3, 1) := by decide +kernel
theorem dX5_about_57 : decode cX5_about 57 = .ok (.bipush 8, 2) := by decide +kernel
theorem dX5_about_59 : decode cX5_about 59 = .ok (.if_icmp .ge 26, 3) := by decide +kernel
theorem dX5_about_62 : decode cX5_about 62 = .ok (.iload_n 2, 1) := by decide +kernel
theorem dX5_about_63 : decode cX5_about 63 = .ok (.aload_n 0, 1) := by decide +kernel
theorem dX5_about_64 : decode cX5_about 64 = .ok (.getfield 30, 3) := by decide +kernel
theorem dX5_about_67 : decode cX5_about 67 = .ok (.iload_n 3, 1) := by decide +kernel
theorem dX5_about_68 : decode cX5_about 68 = .ok (.baload, 1) := by decide +kernel
theorem dX5_about_69 : decode cX5_about 69 = .ok (.ifCond .eq 7, 3) := by decide +kernel
theorem dX5_about_72 : decode cX5_about 72 = .ok (.iconst 1, 1) := by decide +kernel
theorem dX5_about_73 : decode cX5_about 73 = .ok (.goto 4, 3) := by decide +kernel
theorem dX5_about_76 : decode cX5_about 76 = .ok (.iconst 0, 1) := by decide +kernel
theorem dX5_about_77 : decode cX5_about 77 = .ok (.iadd, 1) := by decide +kernel
theorem dX5_about_78 : decode cX5_about 78 = .ok (.istore_n 2, 1) := by decide +kernel
theorem dX5_about_79 : decode cX5_about 79 = .ok (.iinc 3 1, 3) := by decide +kernel
theorem dX5_about_82 : decode cX5_about 82 = .ok (.goto (-26), 3) := by decide +kernel
theorem dX5_about_85 : decode cX5_about 85 = .ok (.iload_n 2, 1) := by decide +kernel
theorem dX5_about_86 : decode cX5_about 86 = .ok (.ireturn, 1) := by decide +kernel
theorem dX5_about_87 : decode cX5_about 87 = .ok (.iconst 0, 1) := by decide +kernel
theorem dX5_about_88 : decode cX5_about 88 = .ok (.istore_n 3, 1) := by decide +kernel
theorem dX5_about_89 : decode cX5_about 89 = .ok (.iload_n 3, 1) := by decide +kernel
theorem dX5_about_90 : decode cX5_about 90 = .ok (.aload_n 0, 1) := by decide +kernel
theorem dX5_about_91 : decode cX5_about 91 = .ok (.getfield 67, 3) := by decide +kernel
theorem dX5_about_94 : decode cX5_about 94 = .ok (.if_icmp .ge 81, 3) := by decide +kernel
theorem dX5_about_97 : decode cX5_about 97 = .ok (.iload_n 2, 1) := by decide +kernel
theorem dX5_about_98 : decode cX5_about 98 = .ok (.iload_n 1, 1) := by decide +kernel
theorem dX5_about_99 : decode cX5_about 99 = .ok (.iconst 2, 1) := by decide +kernel
theorem dX5_about_100 : decode cX5_about 100 = .ok (.if_icmp .ne 21, 3) := by decide +kernel
theorem dX5_about_103 : decode cX5_about 103 = .ok (.aload_n 0, 1) := by decide +kernel
theorem dX5_about_104 : decode cX5_about 104 = .ok (.getfield 20, 3) := by decide +kernel
theorem dX5_about_107 : decode cX5_about 107 = .ok (.iload_n 3, 1) := by decide +kernel
theorem dX5_about_108 : decode cX5_about 108 = .ok (.iaload, 1) := by decide +kernel
theorem dX5_about_109 : decode cX5_about 109 = .ok (.iconst 1, 1) := by decide +kernel
theorem dX5_about_110 : decode cX5_about 110 = .ok (.if_icmp .ne 7, 3) := by decide +kernel
theorem dX5_about_113 : decode cX5_about 113 = .ok (.iconst 1, 1) := by decide +kernel
theorem dX5_about_114 : decode cX5_about 114 = .ok (.goto 53, 3) := by decide +kernel
theorem dX5_about_117 : decode cX5_about 117 = .ok (.iconst 0, 1) := by decide +kernel
theorem dX5_about_118 : decode cX5_about 118 = .ok (.goto 49, 3) := by decide +kernel
theorem dX5_about_121 : decode cX5_about 121 = .ok (.iload_n 1, 1) := by decide +kernel
theorem dX5_about_122 : decode cX5_about 122 = .ok (.iconst 3, 1) := by decide +kernel
theorem dX5_about_123 : decode cX5_about 123 = .ok (.if_icmp .ne 20, 3) := by decide +kernel
theorem dX5_about_126 : decode cX5_about 126 = .ok (.aload_n 0, 1) := by decide +kernel
theorem dX5_about_127 : decode cX5_about 127 = .ok (.getfield 20, 3) := by decide +kernel
theorem dX5_about_130 : decode cX5_about 130 = .ok (.iload_n 3, 1) := by decide +kernel
theorem dX5_about_131 : decode cX5_about 131 = .ok (.iaload, 1) := by decide +kernel
theorem dX5_about_132 : decode cX5_about 132 = .ok (.ifCond .ne 7, 3) := by decide +kernel
theorem dX5_about_135 : decode cX5_about 135 = .ok (.iconst 1, 1) := by decide +kernel
theorem dX5_about_136 : decode cX5_about 136 = .ok (.goto 31, 3) := by decide +kernel
theorem dX5_about_139 : decode cX5_about 139 = .ok (.iconst 0, 1) := by decide +kernel
theorem dX5_about_140 : decode cX5_about 140 = .ok (.goto 27, 3) := by decide +kernel
theorem dX5_about_143 : decode cX5_about 143 = .ok (.aload_n 0, 1) := by decide +kernel
theorem dX5_about_144 : decode cX5_about 144 = .ok (.getfield 20, 3) := by decide +kernel
theorem dX5_about_147 : decode cX5_about 147 = .ok (.iload_n 3, 1) := by decide +kernel
theorem dX5_about_148 : decode cX5_about 148 = .ok (.iaload, 1) := by decide +kernel
theorem dX5_about_149 : decode cX5_about 149 = .ok (.iconst 2, 1) := by decide +kernel
theorem dX5_about_150 : decode cX5_about 150 = .ok (.if_icmp .eq 16, 3) := by decide +kernel
theorem dX5_about_153 : decode cX5_about 153 = .ok (.aload_n 0, 1) := by decide +kernel
theorem dX5_about_154 : decode cX5_about 154 = .ok (.getfield 23, 3) := by decide +kernel
theorem dX5_about_157 : decode cX5_about 157 = .ok (.iload_n 3, 1) := by decide +kernel
theorem dX5_about_158 : decode cX5_about 158 = .ok (.baload, 1) := by decide +kernel
theorem dX5_about_159 : decode cX5_about 159 = .ok (.ifCond .ne 7, 3) := by decide +kernel
theorem dX5_about_162 : decode cX5_about 162 = .ok (.iconst 1, 1) := by decide +kernel
theorem dX5_about_163 : decode cX5_about 163 = .ok (.goto 4, 3) := by decide +kernel
theorem dX5_about_166 : decode cX5_about 166 = .ok (.iconst 0, 1) := by decide +kernel
theorem dX5_about_167 : decode cX5_about 167 = .ok (.iadd, 1) := by decide +kernel
theorem dX5_about_168 : decode cX5_about 168 = .ok (.istore_n 2, 1) := by decide +kernel
theorem dX5_about_169 : decode cX5_about 169 = .ok (.iinc 3 1, 3) := by decide +kernel
theorem dX5_about_172 : decode cX5_about 172 = .ok (.goto (-83), 3) := by decide +kernel
theorem dX5_about_175 : decode cX5_about 175 = .ok (.iload_n 1, 1) := by decide +kernel
theorem dX5_about_176 : decode cX5_about 176 = .ok (.iconst 2, 1) := by decide +kernel
theorem dX5_about_177 : decode cX5_about 177 = .ok (.if_icmp .lt 12, 3) := by decide +kernel
theorem dX5_about_180 : decode cX5_about 180 = .ok (.iload_n 1, 1) := by decide +kernel
theorem dX5_about_181 : decode cX5_about 181 = .ok (.iconst 4, 1) := by decide +kernel
theorem dX5_about_182 : decode cX5_about 182 = .ok (.if_icmp .gt 7, 3) := by decide +kernel
theorem dX5_about_185 : decode cX5_about 185 = .ok (.iload_n 2, 1) := by decide +kernel
theorem dX5_about_186 : decode cX5_about 186 = .ok (.goto 5, 3) := by decide +kernel
theorem dX5_about_189 : decode cX5_about 189 = .ok (.bipush (-3), 2) := by decide +kernel
theorem dX5_about_191 : decode cX5_about 191 = .ok (.ireturn, 1) := by decide +kernel
theorem dJ9_max_7cf53_0 : decode cJ9_max_7cf53 0 = .ok (.iload_n 0, 1) := by decide +kernel
theorem dJ9_max_7cf53_1 : decode cJ9_max_7cf53 1 = .ok (.iload_n 1, 1) := by decide +kernel
theorem dJ9_max_7cf53_2 : decode cJ9_max_7cf53 2 = .ok (.if_icmp .lt 7, 3) := by decide +kernel
theorem dJ9_max_7cf53_5 : decode cJ9_max_7cf53 5 = .ok (.iload_n 0, 1) := by decide +kernel
theorem dJ9_max_7cf53_6 : decode cJ9_max_7cf53 6 = .ok (.goto 4, 3) := by decide +kernel
theorem dJ9_max_7cf53_9 : decode cJ9_max_7cf53 9 = .ok (.iload_n 1, 1) := by decide +kernel
theorem dJ9_max_7cf53_10 : decode cJ9_max_7cf53 10 = .ok (.ireturn, 1) := by decide +kernel
theorem dJ9_min_7cf53_0 : decode cJ9_min_7cf53 0 = .ok (.iload_n 0, 1) := by decide +kernel
theorem dJ9_min_7cf53_1 : decode cJ9_min_7cf53 1 = .ok (.iload_n 1, 1) := by decide +kernel
theorem dJ9_min_7cf53_2 : decode cJ9_min_7cf53 2 = .ok (.if_icmp .gt 7, 3) := by decide +kernel
theorem dJ9_min_7cf53_5 : decode cJ9_min_7cf53 5 = .ok (.iload_n 0, 1) := by decide +kernel
theorem dJ9_min_7cf53_6 : decode cJ9_min_7cf53 6 = .ok (.goto 4, 3) := by decide +kernel
theorem dJ9_min_7cf53_9 : decode cJ9_min_7cf53 9 = .ok (.iload_n 1, 1) := by decide +kernel
theorem dJ9_min_7cf53_10 : decode cJ9_min_7cf53 10 = .ok (.ireturn, 1) := by decide +kernel
theorem dJ7_fill_d0a16_0 : decode cJ7_fill_d0a16 0 = .ok (.iconst 0, 1) := by decide +kernel
theorem dJ7_fill_d0a16_1 : decode cJ7_fill_d0a16 1 = .ok (.istore_n 3, 1) := by decide +kernel
theorem dJ7_fill_d0a16_2 : decode cJ7_fill_d0a16 2 = .ok (.aload_n 0, 1) := by decide +kernel
theorem dJ7_fill_d0a16_3 : decode cJ7_fill_d0a16 3 = .ok (.arraylength, 1) := by decide +kernel
theorem dJ7_fill_d0a16_4 : decode cJ7_fill_d0a16 4 = .ok (.istore 4, 2) := by decide +kernel
theorem dJ7_fill_d0a16_6 : decode cJ7_fill_d0a16 6 = .ok (.iload_n 3, 1) := by decide +kernel
theorem dJ7_fill_d0a16_7 : decode cJ7_fill_d0a16 7 = .ok (.iload 4, 2) := by decide +kernel
theorem dJ7_fill_d0a16_9 : decode cJ7_fill_d0a16 9 = .ok (.if_icmp .ge 13, 3) := by decide +kernel
theorem dJ7_fill_d0a16_12 : decode cJ7_fill_d0a16 12 = .ok (.aload_n 0, 1) := by decide +kernel
theorem dJ7_fill_d0a16_13 : decode cJ7_fill_d0a16 13 = .ok (.iload_n 3, 1) := by decide +kernel
theorem dJ7_fill_d0a16_14 : decode cJ7_fill_d0a16 14 = .ok (.lload_n 1, 1) := by decide +kernel
theorem dJ7_fill_d0a16_15 : decode cJ7_fill_d0a16 15 = .ok (.lastore, 1) := by decide +kernel
theorem dJ7_fill_d0a16_16 : decode cJ7_fill_d0a16 16 = .ok (.iinc 3 1, 3) := by decide +kernel
theorem dJ7_fill_d0a16_19 : decode cJ7_fill_d0a16 19 = .ok (.goto (-13), 3) := by decide +kernel
theorem dJ7_fill_d0a16_22 : decode cJ7_fill_d0a16 22 = .ok (.return_, 1) := by decide +kernel
theorem dJ7_fill_53178_0 : decode cJ7_fill_53178 0 = .ok (.iconst 0, 1) := by decide +kernel
theorem dJ7_fill_53178_1 : decode cJ7_fill_53178 1 = .ok (.istore_n 2, 1) := by decide +kernel
theorem dJ7_fill_53178_2 : decode cJ7_fill_53178 2 = .ok (.aload_n 0, 1) := by decide +kernel
theorem dJ7_fill_53178_3 : decode cJ7_fill_53178 3 = .ok (.arraylength, 1) := by decide +kernel
theorem dJ7_fill_53178_4 : decode cJ7_fill_53178 4 = .ok (.istore_n 3, 1) := by decide +kernel
theorem dJ7_fill_53178_5 : decode cJ7_fill_53178 5 = .ok (.iload_n 2, 1) := by decide +kernel
theorem dJ7_fill_53178_6 : decode cJ7_fill_53178 6 = .ok (.iload_n 3, 1) := by decide +kernel
theorem dJ7_fill_53178_7 : decode cJ7_fill_53178 7 = .ok (.if_icmp .ge 13, 3) := by decide +kernel
theorem dJ7_fill_53178_10 : decode cJ7_fill_53178 10 = .ok (.aload_n 0, 1) := by decide +kernel
theorem dJ7_fill_53178_11 : decode cJ7_fill_53178 11 = .ok (.iload_n 2, 1) := by decide +kernel
theorem dJ7_fill_53178_12 : decode cJ7_fill_53178 12 = .ok (.iload_n 1, 1) := by decide +kernel
theorem dJ7_fill_53178_13 : decode cJ7_fill_53178 13 = .ok (.iastore, 1) := by decide +kernel
theorem dJ7_fill_53178_14 : decode cJ7_fill_53178 14 = .ok (.iinc 2 1, 3) := by decide +kernel
theorem dJ7_fill_53178_17 : decode cJ7_fill_53178 17 = .ok (.goto (-12), 3) := by decide +kernel
theorem dJ7_fill_53178_20 : decode cJ7_fill_53178 20 = .ok (.return_, 1) := by decide +kernel
