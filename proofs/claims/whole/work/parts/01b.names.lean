theorem dX0_init_56 : decode cX0_init 56 = .ok (.aload_n 3, 1) := by decide +kernel
theorem dX0_init_57 : decode cX0_init 57 = .ok (.putfield 36, 3) := by decide +kernel
theorem dX0_init_60 : decode cX0_init 60 = .ok (.return_, 1) := by decide +kernel
set_option maxRecDepth 20000 in
theorem ggX0_choose_X4_fill : GoodIn wsX0_choose wsX4_fill := goodIn_r _ [13, 14, 15, 16, 17, 18, 19, 20, 21, 22, 23, 24, 25, 26, 27, 28, 29, 30, 31, 32, 33, 34, 35, 36, 37, 38, 39, 40, 41, 42, 43, 44, 45, 46, 47, 48, 49, 50, 51, 52, 53, 54, 55, 56, 57, 58, 59, 60, 61, 62, 12, 63, 64, 65, 66, 67, 68, 69, 70, 71, 72, 73, 74, 75, 76, 77, 78, 79, 80, 81, 82, 83, 84, 85, 86, 87, 88, 89, 90, 91, 92, 93, 94, 95, 96, 97, 98, 99, 100, 129, 130, 120, 121, 122, 123, 124, 125, 126, 127, 128, 111, 112, 113, 114, 115, 116, 117, 118, 119] (by decide +kernel) (by decide +kernel)
set_option maxRecDepth 20000 in
theorem gX0_choose_X4_fill : GoodIn wsX0_choose (wsV RX0 51 RX4 yX4_fill wsX4_fill) := goodIn_app (goodIn_of _ (by decide +kernel)) ggX0_choose_X4_fill
theorem dX0_choose_0 : decode cX0_choose 0 = .ok (.bipush (-4), 2) := by decide +kernel
theorem dX0_choose_2 : decode cX0_choose 2 = .ok (.istore 4, 2) := by decide +kernel
theorem dX0_choose_4 : decode cX0_choose 4 = .ok (.iconst 0, 1) := by decide +kernel
theorem dX0_choose_5 : decode cX0_choose 5 = .ok (.istore 5, 2) := by decide +kernel
theorem dX0_choose_7 : decode cX0_choose 7 = .ok (.iconst 1, 1) := by decide +kernel
theorem dX0_choose_8 : decode cX0_choose 8 = .ok (.istore 6, 2) := by decide +kernel
theorem dX0_choose_10 : decode cX0_choose 10 = .ok (.iconst 0, 1) := by decide +kernel
theorem dX0_choose_11 : decode cX0_choose 11 = .ok (.istore 7, 2) := by decide +kernel
theorem dX0_choose_13 : decode cX0_choose 13 = .ok (.iload 7, 2) := by decide +kernel
theorem dX0_choose_15 : decode cX0_choose 15 = .ok (.aload_n 0, 1) := by decide +kernel
theorem dX0_choose_16 : decode cX0_choose 16 = .ok (.getfield 28, 3) := by decide +kernel
theorem dX0_choose_19 : decode cX0_choose 19 = .ok (.getfield 40, 3) := by decide +kernel
theorem dX0_choose_22 : decode cX0_choose 22 = .ok (.if_icmp .ge 145, 3) := by decide +kernel
theorem dX0_choose_25 : decode cX0_choose 25 = .ok (.aload_n 0, 1) := by decide +kernel
theorem dX0_choose_26 : decode cX0_choose 26 = .ok (.getfield 28, 3) := by decide +kernel
theorem dX0_choose_29 : decode cX0_choose 29 = .ok (.getfield 46, 3) := by decide +kernel
theorem dX0_choose_32 : decode cX0_choose 32 = .ok (.iload 7, 2) := by decide +kernel
theorem dX0_choose_34 : decode cX0_choose 34 = .ok (.iaload, 1) := by decide +kernel
theorem dX0_choose_35 : decode cX0_choose 35 = .ok (.istore 8, 2) := by decide +kernel
theorem dX0_choose_37 : decode cX0_choose 37 = .ok (.iload 7, 2) := by decide +kernel
theorem dX0_choose_39 : decode cX0_choose 39 = .ok (.ifCond .eq 20, 3) := by decide +kernel
theorem dX0_choose_42 : decode cX0_choose 42 = .ok (.aload_n 0, 1) := by decide +kernel
theorem dX0_choose_43 : decode cX0_choose 43 = .ok (.getfield 28, 3) := by decide +kernel
theorem dX0_choose_46 : decode cX0_choose 46 = .ok (.getfield 46, 3) := by decide +kernel
theorem dX0_choose_49 : decode cX0_choose 49 = .ok (.iload 7, 2) := by decide +kernel
theorem dX0_choose_51 : decode cX0_choose 51 = .ok (.iconst 1, 1) := by decide +kernel
theorem dX0_choose_52 : decode cX0_choose 52 = .ok (.isub, 1) := by decide +kernel
theorem dX0_choose_53 : decode cX0_choose 53 = .ok (.iaload, 1) := by decide +kernel
theorem dX0_choose_54 : decode cX0_choose 54 = .ok (.iload 8, 2) := by decide +kernel
theorem dX0_choose_56 : decode cX0_choose 56 = .ok (.if_icmp .eq 7, 3) := by decide +kernel
theorem dX0_choose_59 : decode cX0_choose 59 = .ok (.iconst 1, 1) := by decide +kernel
theorem dX0_choose_60 : decode cX0_choose 60 = .ok (.goto 4, 3) := by decide +kernel
theorem dX0_choose_63 : decode cX0_choose 63 = .ok (.iconst 0, 1) := by decide +kernel
theorem dX0_choose_64 : decode cX0_choose 64 = .ok (.istore 9, 2) := by decide +kernel
theorem dX0_choose_66 : decode cX0_choose 66 = .ok (.iload 9, 2) := by decide +kernel
theorem dX0_choose_68 : decode cX0_choose 68 = .ok (.ifCond .eq 93, 3) := by decide +kernel
theorem dX0_choose_71 : decode cX0_choose 71 = .ok (.iload 8, 2) := by decide +kernel
theorem dX0_choose_73 : decode cX0_choose 73 = .ok (.aload_n 3, 1) := by decide +kernel
theorem dX0_choose_74 : decode cX0_choose 74 = .ok (.getfield 49, 3) := by decide +kernel
theorem dX0_choose_77 : decode cX0_choose 77 = .ok (.if_icmp .gt 84, 3) := by decide +kernel
theorem dX0_choose_80 : decode cX0_choose 80 = .ok (.aload_n 0, 1) := by decide +kernel
theorem dX0_choose_81 : decode cX0_choose 81 = .ok (.getfield 32, 3) := by decide +kernel
theorem dX0_choose_84 : decode cX0_choose 84 = .ok (.aload_n 0, 1) := by decide +kernel
theorem dX0_choose_85 : decode cX0_choose 85 = .ok (.getfield 18, 3) := by decide +kernel
theorem dX0_choose_88 : decode cX0_choose 88 = .ok (.iload 8, 2) := by decide +kernel
theorem dX0_choose_90 : decode cX0_choose 90 = .ok (.aload_n 2, 1) := by decide +kernel
theorem dX0_choose_91 : decode cX0_choose 91 = .ok (.aload_n 3, 1) := by decide +kernel
theorem dX0_choose_92 : decode cX0_choose 92 = .ok (.invokevirtual 51, 3) := by decide +kernel
theorem dX0_choose_95 : decode cX0_choose 95 = .ok (.ifCond .ne 6, 3) := by decide +kernel
theorem dX0_choose_98 : decode cX0_choose 98 = .ok (.goto 63, 3) := by decide +kernel
theorem dX0_choose_101 : decode cX0_choose 101 = .ok (.iload_n 1, 1) := by decide +kernel
theorem dX0_choose_102 : decode cX0_choose 102 = .ok (.iconst 1, 1) := by decide +kernel
theorem dX0_choose_103 : decode cX0_choose 103 = .ok (.if_icmp .ne 6, 3) := by decide +kernel
theorem dX0_choose_106 : decode cX0_choose 106 = .ok (.iload 8, 2) := by decide +kernel
theorem dX0_choose_108 : decode cX0_choose 108 = .ok (.ireturn, 1) := by decide +kernel
theorem dX0_choose_109 : decode cX0_choose 109 = .ok (.iload 4, 2) := by decide +kernel
theorem dX0_choose_111 : decode cX0_choose 111 = .ok (.bipush (-4), 2) := by decide +kernel
theorem dX0_choose_113 : decode cX0_choose 113 = .ok (.if_icmp .eq 26, 3) := by decide +kernel
theorem dX0_choose_116 : decode cX0_choose 116 = .ok (.aload_n 0, 1) := by decide +kernel
theorem dX0_choose_117 : decode cX0_choose 117 = .ok (.getfield 18, 3) := by decide +kernel
theorem dX0_choose_120 : decode cX0_choose 120 = .ok (.getfield 57, 3) := by decide +kernel
theorem dX0_choose_123 : decode cX0_choose 123 = .ok (.iload 6, 2) := by decide +kernel
theorem dX0_choose_125 : decode cX0_choose 125 = .ok (.imul, 1) := by decide +kernel
theorem dX0_choose_126 : decode cX0_choose 126 = .ok (.iload 5, 2) := by decide +kernel
theorem dX0_choose_128 : decode cX0_choose 128 = .ok (.aload_n 0, 1) := by decide +kernel
theorem dX0_choose_129 : decode cX0_choose 129 = .ok (.getfield 18, 3) := by decide +kernel
theorem dX0_choose_132 : decode cX0_choose 132 = .ok (.getfield 60, 3) := by decide +kernel
theorem dX0_choose_135 : decode cX0_choose 135 = .ok (.imul, 1) := by decide +kernel
theorem dX0_choose_136 : decode cX0_choose 136 = .ok (.if_icmp .ge 25, 3) := by decide +kernel
theorem dX0_choose_139 : decode cX0_choose 139 = .ok (.iload 8, 2) := by decide +kernel
theorem dX0_choose_141 : decode cX0_choose 141 = .ok (.istore 4, 2) := by decide +kernel
theorem dX0_choose_143 : decode cX0_choose 143 = .ok (.aload_n 0, 1) := by decide +kernel
theorem dX0_choose_144 : decode cX0_choose 144 = .ok (.getfield 18, 3) := by decide +kernel
theorem dX0_choose_147 : decode cX0_choose 147 = .ok (.getfield 57, 3) := by decide +kernel
theorem dX0_choose_150 : decode cX0_choose 150 = .ok (.istore 5, 2) := by decide +kernel
theorem dX0_choose_152 : decode cX0_choose 152 = .ok (.aload_n 0, 1) := by decide +kernel
theorem dX0_choose_153 : decode cX0_choose 153 = .ok (.getfield 18, 3) := by decide +kernel
theorem dX0_choose_156 : decode cX0_choose 156 = .ok (.getfield 60, 3) := by decide +kernel
theorem dX0_choose_159 : decode cX0_choose 159 = .ok (.istore 6, 2) := by decide +kernel
theorem dX0_choose_161 : decode cX0_choose 161 = .ok (.iinc 7 1, 3) := by decide +kernel
theorem dX0_choose_164 : decode cX0_choose 164 = .ok (.goto (-151), 3) := by decide +kernel
theorem dX0_choose_167 : decode cX0_choose 167 = .ok (.iload 4, 2) := by decide +kernel
theorem dX0_choose_169 : decode cX0_choose 169 = .ok (.ireturn, 1) := by decide +kernel
set_option maxRecDepth 20000 in
theorem ggX0_go_X6_last : GoodIn wsX0_go wsX6_last := goodIn_r _ [21, 22, 23, 24, 151, 152, 153, 154, 155] (by decide +kernel) (by decide +kernel)
set_option maxRecDepth 20000 in
theorem gX0_go_X6_last : GoodIn wsX0_go (wsV RX0 76 RX6 yX6_last wsX6_last) := goodIn_app (goodIn_of _ (by decide +kernel)) ggX0_go_X6_last
set_option maxRecDepth 20000 in
theorem ggX0_go_X5_isReadyBy : GoodIn wsX0_go wsX5_isReadyBy := goodIn_r _ [29, 30, 31, 32, 33, 34, 35, 36, 37, 165, 166, 167, 168, 169, 170, 171, 172, 173, 156, 157, 158, 159, 160, 161, 162, 163, 164] (by decide +kernel) (by decide +kernel)
set_option maxRecDepth 20000 in
theorem gX0_go_X5_isReadyBy : GoodIn wsX0_go (wsV RX0 83 RX5 yX5_isReadyBy wsX5_isReadyBy) := goodIn_app (goodIn_of _ (by decide +kernel)) ggX0_go_X5_isReadyBy
set_option maxRecDepth 20000 in
theorem ggX0_go_X0_choose : GoodIn wsX0_go wsX0_choose := goodIn_r _ [42, 11, 43, 44, 45, 14, 46, 15, 47, 48, 49, 50, 51, 52, 53, 54, 5, 6, 7, 55, 56, 57, 58, 59, 32, 33, 34, 35, 36, 37, 60, 61, 62, 28, 63, 64, 65, 66, 67, 68, 69, 70, 71, 72, 73, 74, 75, 76, 77, 78, 79, 80, 81, 82, 83, 84, 85, 86, 87, 88, 89, 90, 91, 92, 93, 94, 95, 96, 97, 98, 99, 100, 101, 102, 103, 104, 105, 106, 107, 108, 109, 110, 111, 112, 113, 114, 115, 116, 117, 118, 119, 120, 121, 122, 123, 124, 125, 126, 127, 128, 129, 141, 142, 143, 144, 145, 146, 147, 148, 149, 150, 165, 166, 167, 168, 169, 170, 171, 172, 173, 156, 157, 158, 159, 160, 161, 162, 163, 164, 174, 175] (by decide +kernel) (by decide +kernel)
set_option maxRecDepth 20000 in
theorem gX0_go_X0_choose : GoodIn wsX0_go (wsV RX0 87 RX0 yX0_choose wsX0_choose) := goodIn_app (goodIn_of _ (by decide +kernel)) ggX0_go_X0_choose
set_option maxRecDepth 20000 in
theorem ggX0_go_X4_fill : GoodIn wsX0_go wsX4_fill := goodIn_r _ [52, 53, 54, 5, 6, 7, 55, 56, 57, 58, 59, 32, 33, 34, 35, 36, 37, 60, 61, 62, 28, 63, 64, 65, 66, 67, 68, 69, 70, 71, 72, 73, 74, 75, 76, 77, 78, 79, 80, 81, 82, 83, 84, 85, 86, 87, 88, 89, 90, 91, 51, 92, 93, 94, 95, 96, 97, 98, 99, 100, 101, 102, 103, 104, 105, 106, 107, 108, 109, 110, 111, 112, 113, 114, 115, 116, 117, 118, 119, 120, 121, 122, 123, 124, 125, 126, 127, 128, 129, 174, 175, 156, 157, 158, 159, 160, 161, 162, 163, 164, 165, 166, 167, 168, 169, 170, 171, 172, 173] (by decide +kernel) (by decide +kernel)
set_option maxRecDepth 20000 in
theorem gX0_go_X4_fill : GoodIn wsX0_go (wsV RX0 51 RX4 yX4_fill wsX4_fill) := goodIn_app (goodIn_of _ (by decide +kernel)) ggX0_go_X4_fill
set_option maxRecDepth 20000 in
theorem ggX0_go_X6_addSlates : GoodIn wsX0_go wsX6_addSlates := goodIn_r _ [132, 133, 134, 135, 136, 20, 137, 138, 139, 140, 156, 157, 158, 159, 160, 161, 162, 163, 164] (by decide +kernel) (by decide +kernel)
set_option maxRecDepth 20000 in
theorem gX0_go_X6_addSlates : GoodIn wsX0_go (va_wsS RX0 91 yX6_addSlates wsX6_addSlates) := goodIn_app (goodIn_of _ (by decide +kernel)) ggX0_go_X6_addSlates
theorem dX0_go_0 : decode cX0_go 0 = .ok (.aload_n 0, 1) := by decide +kernel
theorem dX0_go_1 : decode cX0_go 1 = .ok (.getfield 36, 3) := by decide +kernel
theorem dX0_go_4 : decode cX0_go 4 = .ok (.getfield 63, 3) := by decide +kernel
theorem dX0_go_7 : decode cX0_go 7 = .ok (.iconst 0, 1) := by decide +kernel
theorem dX0_go_8 : decode cX0_go 8 = .ok (.aload_n 0, 1) := by decide +kernel
theorem dX0_go_9 : decode cX0_go 9 = .ok (.getfield 9, 3) := by decide +kernel
theorem dX0_go_12 : decode cX0_go 12 = .ok (.iconst 0, 1) := by decide +kernel
theorem dX0_go_13 : decode cX0_go 13 = .ok (.bipush 8, 2) := by decide +kernel
theorem dX0_go_15 : decode cX0_go 15 = .ok (.invokestatic 66, 3) := by decide +kernel
theorem dX0_go_18 : decode cX0_go 18 = .ok (.aload_n 0, 1) := by decide +kernel
theorem dX0_go_19 : decode cX0_go 19 = .ok (.iconst 0, 1) := by decide +kernel
theorem dX0_go_20 : decode cX0_go 20 = .ok (.putfield 72, 3) := by decide +kernel
theorem dX0_go_23 : decode cX0_go 23 = .ok (.aload_n 0, 1) := by decide +kernel
theorem dX0_go_24 : decode cX0_go 24 = .ok (.iconst 0, 1) := by decide +kernel
theorem dX0_go_25 : decode cX0_go 25 = .ok (.putfield 75, 3) := by decide +kernel
theorem dX0_go_28 : decode cX0_go 28 = .ok (.aload_n 0, 1) := by decide +kernel
theorem dX0_go_29 : decode cX0_go 29 = .ok (.getfield 36, 3) := by decide +kernel
theorem dX0_go_32 : decode cX0_go 32 = .ok (.invokevirtual 76, 3) := by decide +kernel
theorem dX0_go_35 : decode cX0_go 35 = .ok (.astore_n 2, 1) := by decide +kernel
theorem dX0_go_36 : decode cX0_go 36 = .ok (.aload_n 0, 1) := by decide +kernel
theorem dX0_go_37 : decode cX0_go 37 = .ok (.getfield 36, 3) := by decide +kernel
theorem dX0_go_40 : decode cX0_go 40 = .ok (.getfield 80, 3) := by decide +kernel
theorem dX0_go_43 : decode cX0_go 43 = .ok (.istore_n 3, 1) := by decide +kernel
theorem dX0_go_44 : decode cX0_go 44 = .ok (.iload_n 3, 1) := by decide +kernel
theorem dX0_go_45 : decode cX0_go 45 = .ok (.bipush 20, 2) := by decide +kernel
theorem dX0_go_47 : decode cX0_go 47 = .ok (.if_icmp .ge 117, 3) := by decide +kernel
theorem dX0_go_50 : decode cX0_go 50 = .ok (.aload_n 0, 1) := by decide +kernel
theorem dX0_go_51 : decode cX0_go 51 = .ok (.getfield 28, 3) := by decide +kernel
theorem dX0_go_54 : decode cX0_go 54 = .ok (.aload_n 2, 1) := by decide +kernel
theorem dX0_go_55 : decode cX0_go 55 = .ok (.invokevirtual 83, 3) := by decide +kernel
theorem dX0_go_58 : decode cX0_go 58 = .ok (.ifCond .ne 106, 3) := by decide +kernel
theorem dX0_go_61 : decode cX0_go 61 = .ok (.iload_n 3, 1) := by decide +kernel
theorem dX0_go_62 : decode cX0_go 62 = .ok (.iconst 2, 1) := by decide +kernel
theorem dX0_go_63 : decode cX0_go 63 = .ok (.irem, 1) := by decide +kernel
theorem dX0_go_64 : decode cX0_go 64 = .ok (.ifCond .ne 10, 3) := by decide +kernel
theorem dX0_go_67 : decode cX0_go 67 = .ok (.aload_n 0, 1) := by decide +kernel
theorem dX0_go_68 : decode cX0_go 68 = .ok (.getfield 22, 3) := by decide +kernel
theorem dX0_go_71 : decode cX0_go 71 = .ok (.goto 7, 3) := by decide +kernel
theorem dX0_go_74 : decode cX0_go 74 = .ok (.aload_n 0, 1) := by decide +kernel
theorem dX0_go_75 : decode cX0_go 75 = .ok (.getfield 25, 3) := by decide +kernel
theorem dX0_go_78 : decode cX0_go 78 = .ok (.astore 4, 2) := by decide +kernel
theorem dX0_go_80 : decode cX0_go 80 = .ok (.aload_n 0, 1) := by decide +kernel
theorem dX0_go_81 : decode cX0_go 81 = .ok (.iload_n 1, 1) := by decide +kernel
theorem dX0_go_82 : decode cX0_go 82 = .ok (.aload_n 0, 1) := by decide +kernel
theorem dX0_go_83 : decode cX0_go 83 = .ok (.getfield 9, 3) := by decide +kernel
theorem dX0_go_86 : decode cX0_go 86 = .ok (.aload_n 2, 1) := by decide +kernel
theorem dX0_go_87 : decode cX0_go 87 = .ok (.invokevirtual 87, 3) := by decide +kernel
theorem dX0_go_90 : decode cX0_go 90 = .ok (.istore 5, 2) := by decide +kernel
theorem dX0_go_92 : decode cX0_go 92 = .ok (.iload 5, 2) := by decide +kernel
theorem dX0_go_94 : decode cX0_go 94 = .ok (.bipush (-4), 2) := by decide +kernel
theorem dX0_go_96 : decode cX0_go 96 = .ok (.if_icmp .eq 68, 3) := by decide +kernel
theorem dX0_go_99 : decode cX0_go 99 = .ok (.aload_n 0, 1) := by decide +kernel
theorem dX0_go_100 : decode cX0_go 100 = .ok (.getfield 32, 3) := by decide +kernel
theorem dX0_go_103 : decode cX0_go 103 = .ok (.aload 4, 2) := by decide +kernel
theorem dX0_go_105 : decode cX0_go 105 = .ok (.iload 5, 2) := by decide +kernel
theorem dX0_go_107 : decode cX0_go 107 = .ok (.aload_n 0, 1) := by decide +kernel
theorem dX0_go_108 : decode cX0_go 108 = .ok (.getfield 9, 3) := by decide +kernel
theorem dX0_go_111 : decode cX0_go 111 = .ok (.aload_n 2, 1) := by decide +kernel
theorem dX0_go_112 : decode cX0_go 112 = .ok (.invokevirtual 51, 3) := by decide +kernel
theorem dX0_go_115 : decode cX0_go 115 = .ok (.ifCond .ne 6, 3) := by decide +kernel
theorem dX0_go_118 : decode cX0_go 118 = .ok (.goto 46, 3) := by decide +kernel
theorem dX0_go_121 : decode cX0_go 121 = .ok (.aload_n 0, 1) := by decide +kernel
theorem dX0_go_122 : decode cX0_go 122 = .ok (.getfield 9, 3) := by decide +kernel
theorem dX0_go_125 : decode cX0_go 125 = .ok (.aload 4, 2) := by decide +kernel
theorem dX0_go_127 : decode cX0_go 127 = .ok (.iconst (-1), 1) := by decide +kernel
theorem dX0_go_128 : decode cX0_go 128 = .ok (.invokestatic 91, 3) := by decide +kernel
theorem dX0_go_131 : decode cX0_go 131 = .ok (.aload_n 0, 1) := by decide +kernel
theorem dX0_go_132 : decode cX0_go 132 = .ok (.dup, 1) := by decide +kernel
theorem dX0_go_133 : decode cX0_go 133 = .ok (.getfield 72, 3) := by decide +kernel
theorem dX0_go_136 : decode cX0_go 136 = .ok (.iconst 1, 1) := by decide +kernel
theorem dX0_go_137 : decode cX0_go 137 = .ok (.iadd, 1) := by decide +kernel
theorem dX0_go_138 : decode cX0_go 138 = .ok (.putfield 72, 3) := by decide +kernel
theorem dX0_go_141 : decode cX0_go 141 = .ok (.aload_n 0, 1) := by decide +kernel
theorem dX0_go_142 : decode cX0_go 142 = .ok (.dup, 1) := by decide +kernel
theorem dX0_go_143 : decode cX0_go 143 = .ok (.getfield 75, 3) := by decide +kernel
theorem dX0_go_146 : decode cX0_go 146 = .ok (.aload 4, 2) := by decide +kernel
theorem dX0_go_148 : decode cX0_go 148 = .ok (.getfield 57, 3) := by decide +kernel
theorem dX0_go_151 : decode cX0_go 151 = .ok (.iadd, 1) := by decide +kernel
theorem dX0_go_152 : decode cX0_go 152 = .ok (.putfield 75, 3) := by decide +kernel
theorem dX0_go_155 : decode cX0_go 155 = .ok (.aload 4, 2) := by decide +kernel
theorem dX0_go_157 : decode cX0_go 157 = .ok (.astore_n 2, 1) := by decide +kernel
theorem dX0_go_158 : decode cX0_go 158 = .ok (.iinc 3 1, 3) := by decide +kernel
theorem dX0_go_161 : decode cX0_go 161 = .ok (.goto (-117), 3) := by decide +kernel
theorem dX0_go_164 : decode cX0_go 164 = .ok (.aload_n 0, 1) := by decide +kernel
theorem dX0_go_165 : decode cX0_go 165 = .ok (.aload_n 0, 1) := by decide +kernel
theorem dX0_go_166 : decode cX0_go 166 = .ok (.getfield 28, 3) := by decide +kernel
theorem dX0_go_169 : decode cX0_go 169 = .ok (.aload_n 2, 1) := by decide +kernel
theorem dX0_go_170 : decode cX0_go 170 = .ok (.invokevirtual 83, 3) := by decide +kernel
theorem dX0_go_173 : decode cX0_go 173 = .ok (.putfield 95, 3) := by decide +kernel
theorem dX0_go_176 : decode cX0_go 176 = .ok (.return_, 1) := by decide +kernel
theorem dX1_init_0 : decode cX1_init 0 = .ok (.aload_n 0, 1) := by decide +kernel
theorem dX1_init_1 : decode cX1_init 1 = .ok (.invokespecial 1, 3) := by decide +kernel
theorem dX1_init_4 : decode cX1_init 4 = .ok (.aload_n 0, 1) := by decide +kernel
theorem dX1_init_5 : decode cX1_init 5 = .ok (.iload_n 1, 1) := by decide +kernel
theorem dX1_init_6 : decode cX1_init 6 = .ok (.putfield 7, 3) := by decide +kernel
theorem dX1_init_9 : decode cX1_init 9 = .ok (.aload_n 0, 1) := by decide +kernel
theorem dX1_init_10 : decode cX1_init 10 = .ok (.aload_n 2, 1) := by decide +kernel
theorem dX1_init_11 : decode cX1_init 11 = .ok (.putfield 13, 3) := by decide +kernel
theorem dX1_init_14 : decode cX1_init 14 = .ok (.aload_n 0, 1) := by decide +kernel
theorem dX1_init_15 : decode cX1_init 15 = .ok (.iload_n 3, 1) := by decide +kernel
theorem dX1_init_16 : decode cX1_init 16 = .ok (.putfield 17, 3) := by decide +kernel
theorem dX1_init_19 : decode cX1_init 19 = .ok (.aload_n 0, 1) := by decide +kernel
theorem dX1_init_20 : decode cX1_init 20 = .ok (.iload 4, 2) := by decide +kernel
theorem dX1_init_22 : decode cX1_init 22 = .ok (.putfield 20, 3) := by decide +kernel
theorem dX1_init_25 : decode cX1_init 25 = .ok (.return_, 1) := by decide +kernel
set_option maxRecDepth 20000 in
theorem ggX1_undoOn_X6_pop : GoodIn wsX1_undoOn wsX6_pop := goodIn_r _ [10, 11, 12, 13, 14, 15, 9, 16, 17, 18, 19, 20, 21, 22, 23, 24, 25, 26, 27, 28, 29, 39, 40, 41, 42, 43, 44, 45, 46, 47, 48, 49, 50, 51, 52] (by decide +kernel) (by decide +kernel)
set_option maxRecDepth 20000 in
theorem gX1_undoOn_X6_pop : GoodIn wsX1_undoOn (wsV RX1 23 RX6 yX6_pop wsX6_pop) := goodIn_app (goodIn_of _ (by decide +kernel)) ggX1_undoOn_X6_pop
set_option maxRecDepth 20000 in
theorem ggX1_undoOn_X6_push : GoodIn wsX1_undoOn wsX6_push := goodIn_r _ [33, 11, 17, 12, 19, 20, 9, 21, 22, 23, 24, 25, 26, 27, 28, 29, 39, 40, 41, 42, 43, 44, 45, 46, 47, 48, 49, 50, 51, 52] (by decide +kernel) (by decide +kernel)
set_option maxRecDepth 20000 in
theorem gX1_undoOn_X6_push : GoodIn wsX1_undoOn (wsV RX1 29 RX6 yX6_push wsX6_push) := goodIn_app (goodIn_of _ (by decide +kernel)) ggX1_undoOn_X6_push
set_option maxRecDepth 20000 in
theorem ggX1_undoOn_X6_addTo : GoodIn wsX1_undoOn wsX6_addTo := goodIn_r _ [26, 27, 28, 29] (by decide +kernel) (by decide +kernel)
set_option maxRecDepth 20000 in
theorem gX1_undoOn_X6_addTo : GoodIn wsX1_undoOn (va_wsS RX1 37 yX6_addTo wsX6_addTo) := goodIn_app (goodIn_of _ (by decide +kernel)) ggX1_undoOn_X6_addTo
theorem dX1_undoOn_0 : decode cX1_undoOn 0 = .ok (.aload_n 0, 1) := by decide +kernel
theorem dX1_undoOn_1 : decode cX1_undoOn 1 = .ok (.getfield 7, 3) := by decide +kernel
theorem dX1_undoOn_4 : decode cX1_undoOn 4 = .ok (.ifCond .ne 11, 3) := by decide +kernel
theorem dX1_undoOn_7 : decode cX1_undoOn 7 = .ok (.aload_n 1, 1) := by decide +kernel
theorem dX1_undoOn_8 : decode cX1_undoOn 8 = .ok (.invokevirtual 23, 3) := by decide +kernel
theorem dX1_undoOn_11 : decode cX1_undoOn 11 = .ok (.pop, 1) := by decide +kernel
theorem dX1_undoOn_12 : decode cX1_undoOn 12 = .ok (.goto 38, 3) := by decide +kernel
theorem dX1_undoOn_15 : decode cX1_undoOn 15 = .ok (.aload_n 0, 1) := by decide +kernel
theorem dX1_undoOn_16 : decode cX1_undoOn 16 = .ok (.getfield 7, 3) := by decide +kernel
theorem dX1_undoOn_19 : decode cX1_undoOn 19 = .ok (.iconst 1, 1) := by decide +kernel
theorem dX1_undoOn_20 : decode cX1_undoOn 20 = .ok (.if_icmp .ne 14, 3) := by decide +kernel
theorem dX1_undoOn_23 : decode cX1_undoOn 23 = .ok (.aload_n 1, 1) := by decide +kernel
theorem dX1_undoOn_24 : decode cX1_undoOn 24 = .ok (.aload_n 0, 1) := by decide +kernel
theorem dX1_undoOn_25 : decode cX1_undoOn 25 = .ok (.getfield 13, 3) := by decide +kernel
theorem dX1_undoOn_28 : decode cX1_undoOn 28 = .ok (.invokevirtual 29, 3) := by decide +kernel
theorem dX1_undoOn_31 : decode cX1_undoOn 31 = .ok (.goto 19, 3) := by decide +kernel
theorem dX1_undoOn_34 : decode cX1_undoOn 34 = .ok (.aload_n 1, 1) := by decide +kernel
theorem dX1_undoOn_35 : decode cX1_undoOn 35 = .ok (.getfield 33, 3) := by decide +kernel
theorem dX1_undoOn_38 : decode cX1_undoOn 38 = .ok (.aload_n 0, 1) := by decide +kernel
theorem dX1_undoOn_39 : decode cX1_undoOn 39 = .ok (.getfield 17, 3) := by decide +kernel
theorem dX1_undoOn_42 : decode cX1_undoOn 42 = .ok (.aload_n 0, 1) := by decide +kernel
theorem dX1_undoOn_43 : decode cX1_undoOn 43 = .ok (.getfield 20, 3) := by decide +kernel
theorem dX1_undoOn_46 : decode cX1_undoOn 46 = .ok (.ineg, 1) := by decide +kernel
theorem dX1_undoOn_47 : decode cX1_undoOn 47 = .ok (.invokestatic 37, 3) := by decide +kernel
theorem dX1_undoOn_50 : decode cX1_undoOn 50 = .ok (.return_, 1) := by decide +kernel
theorem dX2_init_0 : decode cX2_init 0 = .ok (.aload_n 0, 1) := by decide +kernel
theorem dX2_init_1 : decode cX2_init 1 = .ok (.invokespecial 3, 3) := by decide +kernel
theorem dX2_init_4 : decode cX2_init 4 = .ok (.aload_n 0, 1) := by decide +kernel
theorem dX2_init_5 : decode cX2_init 5 = .ok (.bipush 6, 2) := by decide +kernel
theorem dX2_init_7 : decode cX2_init 7 = .ok (.anewarray 9, 3) := by decide +kernel
theorem dX2_init_10 : decode cX2_init 10 = .ok (.putfield 11, 3) := by decide +kernel
theorem dX2_init_13 : decode cX2_init 13 = .ok (.return_, 1) := by decide +kernel
theorem dX2_clear_0 : decode cX2_clear 0 = .ok (.aload_n 0, 1) := by decide +kernel
theorem dX2_clear_1 : decode cX2_clear 1 = .ok (.iconst 0, 1) := by decide +kernel
theorem dX2_clear_2 : decode cX2_clear 2 = .ok (.putfield 17, 3) := by decide +kernel
theorem dX2_clear_5 : decode cX2_clear 5 = .ok (.return_, 1) := by decide +kernel
theorem dX2_add_0 : decode cX2_add 0 = .ok (.aload_n 0, 1) := by decide +kernel
theorem dX2_add_1 : decode cX2_add 1 = .ok (.getfield 17, 3) := by decide +kernel
theorem dX2_add_4 : decode cX2_add 4 = .ok (.bipush 6, 2) := by decide +kernel
theorem dX2_add_6 : decode cX2_add 6 = .ok (.if_icmp .lt 36, 3) := by decide +kernel
theorem dX2_add_9 : decode cX2_add 9 = .ok (.iconst 1, 1) := by decide +kernel
theorem dX2_add_10 : decode cX2_add 10 = .ok (.istore_n 2, 1) := by decide +kernel
theorem dX2_add_11 : decode cX2_add 11 = .ok (.iload_n 2, 1) := by decide +kernel
theorem dX2_add_12 : decode cX2_add 12 = .ok (.bipush 6, 2) := by decide +kernel
theorem dX2_add_14 : decode cX2_add 14 = .ok (.if_icmp .ge 23, 3) := by decide +kernel
theorem dX2_add_17 : decode cX2_add 17 = .ok (.aload_n 0, 1) := by decide +kernel
theorem dX2_add_18 : decode cX2_add 18 = .ok (.getfield 11, 3) := by decide +kernel
theorem dX2_add_21 : decode cX2_add 21 = .ok (.iload_n 2, 1) := by decide +kernel
theorem dX2_add_22 : decode cX2_add 22 = .ok (.iconst 1, 1) := by decide +kernel
theorem dX2_add_23 : decode cX2_add 23 = .ok (.isub, 1) := by decide +kernel
theorem dX2_add_24 : decode cX2_add 24 = .ok (.aload_n 0, 1) := by decide +kernel
theorem dX2_add_25 : decode cX2_add 25 = .ok (.getfield 11, 3) := by decide +kernel
theorem dX2_add_28 : decode cX2_add 28 = .ok (.iload_n 2, 1) := by decide +kernel
theorem dX2_add_29 : decode cX2_add 29 = .ok (.aaload, 1) := by decide +kernel
theorem dX2_add_30 : decode cX2_add 30 = .ok (.aastore, 1) := by decide +kernel
theorem dX2_add_31 : decode cX2_add 31 = .ok (.iinc 2 1, 3) := by decide +kernel
theorem dX2_add_34 : decode cX2_add 34 = .ok (.goto (-23), 3) := by decide +kernel
theorem dX2_add_37 : decode cX2_add 37 = .ok (.aload_n 0, 1) := by decide +kernel
theorem dX2_add_38 : decode cX2_add 38 = .ok (.iconst 5, 1) := by decide +kernel
theorem dX2_add_39 : decode cX2_add 39 = .ok (.putfield 17, 3) := by decide +kernel
theorem dX2_add_42 : decode cX2_add 42 = .ok (.aload_n 0, 1) := by decide +kernel
theorem dX2_add_43 : decode cX2_add 43 = .ok (.getfield 11, 3) := by decide +kernel
theorem dX2_add_46 : decode cX2_add 46 = .ok (.aload_n 0, 1) := by decide +kernel
theorem dX2_add_47 : decode cX2_add 47 = .ok (.getfield 17, 3) := by decide +kernel
theorem dX2_add_50 : decode cX2_add 50 = .ok (.aload_n 1, 1) := by decide +kernel
theorem dX2_add_51 : decode cX2_add 51 = .ok (.aastore, 1) := by decide +kernel
theorem dX2_add_52 : decode cX2_add 52 = .ok (.aload_n 0, 1) := by decide +kernel
theorem dX2_add_53 : decode cX2_add 53 = .ok (.dup, 1) := by decide +kernel
theorem dX2_add_54 : decode cX2_add 54 = .ok (.getfield 17, 3) := by decide +kernel
theorem dX2_add_57 : decode cX2_add 57 = .ok (.iconst 1, 1) := by decide +kernel
theorem dX2_add_58 : decode cX2_add 58 = .ok (.iadd, 1) := by decide +kernel
theorem dX2_add_59 : decode cX2_add 59 = .ok (.putfield 17, 3) := by decide +kernel
theorem dX2_add_62 : decode cX2_add 62 = .ok (.return_, 1) := by decide +kernel
theorem dX2_takeLatest_0 : decode cX2_takeLatest 0 = .ok (.aload_n 0, 1) := by decide +kernel
theorem dX2_takeLatest_1 : decode cX2_takeLatest 1 = .ok (.getfield 17, 3) := by decide +kernel
theorem dX2_takeLatest_4 : decode cX2_takeLatest 4 = .ok (.ifCond .gt 5, 3) := by decide +kernel
theorem dX2_takeLatest_7 : decode cX2_takeLatest 7 = .ok (.aconst_null, 1) := by decide +kernel
theorem dX2_takeLatest_8 : decode cX2_takeLatest 8 = .ok (.areturn, 1) := by decide +kernel
theorem dX2_takeLatest_9 : decode cX2_takeLatest 9 = .ok (.aload_n 0, 1) := by decide +kernel
theorem dX2_takeLatest_10 : decode cX2_takeLatest 10 = .ok (.dup, 1) := by decide +kernel
theorem dX2_takeLatest_11 : decode cX2_takeLatest 11 = .ok (.getfield 17, 3) := by decide +kernel
theorem dX2_takeLatest_14 : decode cX2_takeLatest 14 = .ok (.iconst 1, 1) := by decide +kernel
theorem dX2_takeLatest_15 : decode cX2_takeLatest 15 = .ok (.isub, 1) := by decide +kernel
theorem dX2_takeLatest_16 : decode cX2_takeLatest 16 = .ok (.putfield 17, 3) := by decide +kernel
theorem dX2_takeLatest_19 : decode cX2_takeLatest 19 = .ok (.aload_n 0, 1) := by decide +kernel
theorem dX2_takeLatest_20 : decode cX2_takeLatest 20 = .ok (.getfield 11, 3) := by decide +kernel
theorem dX2_takeLatest_23 : decode cX2_takeLatest 23 = .ok (.aload_n 0, 1) := by decide +kernel
theorem dX2_takeLatest_24 : decode cX2_takeLatest 24 = .ok (.getfield 17, 3) := by decide +kernel
theorem dX2_takeLatest_27 : decode cX2_takeLatest 27 = .ok (.aaload, 1) := by decide +kernel
theorem dX2_takeLatest_28 : decode cX2_takeLatest 28 = .ok (.areturn, 1) := by decide +kernel
theorem dX3_init_0 : decode cX3_init 0 = .ok (.aload_n 0, 1) := by decide +kernel
theorem dX3_init_1 : decode cX3_init 1 = .ok (.invokespecial 3, 3) := by decide +kernel
theorem dX3_init_4 : decode cX3_init 4 = .ok (.aload_n 0, 1) := by decide +kernel
theorem dX3_init_5 : decode cX3_init 5 = .ok (.bipush 60, 2) := by decide +kernel
theorem dX3_init_7 : decode cX3_init 7 = .ok (.newarray .int, 2) := by decide +kernel
theorem dX3_init_9 : decode cX3_init 9 = .ok (.putfield 9, 3) := by decide +kernel
theorem dX3_init_12 : decode cX3_init 12 = .ok (.aload_n 0, 1) := by decide +kernel
theorem dX3_init_13 : decode cX3_init 13 = .ok (.bipush 60, 2) := by decide +kernel
theorem dX3_init_15 : decode cX3_init 15 = .ok (.newarray .int, 2) := by decide +kernel
theorem dX3_init_17 : decode cX3_init 17 = .ok (.putfield 15, 3) := by decide +kernel
theorem dX3_init_20 : decode cX3_init 20 = .ok (.return_, 1) := by decide +kernel
theorem dX3_begin_0 : decode cX3_begin 0 = .ok (.aload_n 0, 1) := by decide +kernel
theorem dX3_begin_1 : decode cX3_begin 1 = .ok (.iload_n 1, 1) := by decide +kernel
theorem dX3_begin_2 : decode cX3_begin 2 = .ok (.putfield 18, 3) := by decide +kernel
theorem dX3_begin_5 : decode cX3_begin 5 = .ok (.aload_n 0, 1) := by decide +kernel
theorem dX3_begin_6 : decode cX3_begin 6 = .ok (.iload_n 2, 1) := by decide +kernel
theorem dX3_begin_7 : decode cX3_begin 7 = .ok (.putfield 22, 3) := by decide +kernel
theorem dX3_begin_10 : decode cX3_begin 10 = .ok (.aload_n 0, 1) := by decide +kernel
theorem dX3_begin_11 : decode cX3_begin 11 = .ok (.iload_n 3, 1) := by decide +kernel
theorem dX3_begin_12 : decode cX3_begin 12 = .ok (.putfield 25, 3) := by decide +kernel
theorem dX3_begin_15 : decode cX3_begin 15 = .ok (.aload_n 0, 1) := by decide +kernel
theorem dX3_begin_16 : decode cX3_begin 16 = .ok (.iload 4, 2) := by decide +kernel
theorem dX3_begin_18 : decode cX3_begin 18 = .ok (.putfield 28, 3) := by decide +kernel
theorem dX3_begin_21 : decode cX3_begin 21 = .ok (.aload_n 0, 1) := by decide +kernel
theorem dX3_begin_22 : decode cX3_begin 22 = .ok (.iconst 0, 1) := by decide +kernel
theorem dX3_begin_23 : decode cX3_begin 23 = .ok (.putfield 31, 3) := by decide +kernel
theorem dX3_begin_26 : decode cX3_begin 26 = .ok (.aload_n 0, 1) := by decide +kernel
theorem dX3_begin_27 : decode cX3_begin 27 = .ok (.iconst 0, 1) := by decide +kernel
theorem dX3_begin_28 : decode cX3_begin 28 = .ok (.putfield 34, 3) := by decide +kernel
theorem dX3_begin_31 : decode cX3_begin 31 = .ok (.aload_n 0, 1) := by decide +kernel
theorem dX3_begin_32 : decode cX3_begin 32 = .ok (.iconst 0, 1) := by decide +kernel
theorem dX3_begin_33 : decode cX3_begin 33 = .ok (.putfield 37, 3) := by decide +kernel
theorem dX3_begin_36 : decode cX3_begin 36 = .ok (.return_, 1) := by decide +kernel
set_option maxRecDepth 20000 in
theorem ggX3_put_X3_startOf : GoodIn wsX3_put wsX3_startOf := goodIn_r _ [11, 3, 12, 13, 14, 15, 16, 17, 18, 19, 20] (by decide +kernel) (by decide +kernel)
set_option maxRecDepth 20000 in
theorem gX3_put_X3_startOf : GoodIn wsX3_put (wsV RX3 40 RX3 yX3_startOf wsX3_startOf) := goodIn_app (goodIn_of _ (by decide +kernel)) ggX3_put_X3_startOf
theorem dX3_put_0 : decode cX3_put 0 = .ok (.aload_n 0, 1) := by decide +kernel
theorem dX3_put_1 : decode cX3_put 1 = .ok (.getfield 31, 3) := by decide +kernel
theorem dX3_put_4 : decode cX3_put 4 = .ok (.bipush 60, 2) := by decide +kernel
theorem dX3_put_6 : decode cX3_put 6 = .ok (.if_icmp .lt 4, 3) := by decide +kernel
theorem dX3_put_9 : decode cX3_put 9 = .ok (.return_, 1) := by decide +kernel
theorem dX3_put_10 : decode cX3_put 10 = .ok (.aload_n 0, 1) := by decide +kernel
theorem dX3_put_11 : decode cX3_put 11 = .ok (.getfield 9, 3) := by decide +kernel
theorem dX3_put_14 : decode cX3_put 14 = .ok (.aload_n 0, 1) := by decide +kernel
theorem dX3_put_15 : decode cX3_put 15 = .ok (.getfield 31, 3) := by decide +kernel
theorem dX3_put_18 : decode cX3_put 18 = .ok (.iload_n 1, 1) := by decide +kernel
theorem dX3_put_19 : decode cX3_put 19 = .ok (.iastore, 1) := by decide +kernel
theorem dX3_put_20 : decode cX3_put 20 = .ok (.aload_n 0, 1) := by decide +kernel
theorem dX3_put_21 : decode cX3_put 21 = .ok (.getfield 15, 3) := by decide +kernel
theorem dX3_put_24 : decode cX3_put 24 = .ok (.aload_n 0, 1) := by decide +kernel
theorem dX3_put_25 : decode cX3_put 25 = .ok (.getfield 31, 3) := by decide +kernel
theorem dX3_put_28 : decode cX3_put 28 = .ok (.aload_n 0, 1) := by decide +kernel
theorem dX3_put_29 : decode cX3_put 29 = .ok (.aload_n 0, 1) := by decide +kernel
theorem dX3_put_30 : decode cX3_put 30 = .ok (.getfield 31, 3) := by decide +kernel
theorem dX3_put_33 : decode cX3_put 33 = .ok (.invokevirtual 40, 3) := by decide +kernel
theorem dX3_put_36 : decode cX3_put 36 = .ok (.iload_n 3, 1) := by decide +kernel
theorem dX3_put_37 : decode cX3_put 37 = .ok (.iadd, 1) := by decide +kernel
theorem dX3_put_38 : decode cX3_put 38 = .ok (.iastore, 1) := by decide +kernel
theorem dX3_put_39 : decode cX3_put 39 = .ok (.aload_n 0, 1) := by decide +kernel
theorem dX3_put_40 : decode cX3_put 40 = .ok (.dup, 1) := by decide +kernel
theorem dX3_put_41 : decode cX3_put 41 = .ok (.getfield 31, 3) := by decide +kernel
theorem dX3_put_44 : decode cX3_put 44 = .ok (.iconst 1, 1) := by decide +kernel
theorem dX3_put_45 : decode cX3_put 45 = .ok (.iadd, 1) := by decide +kernel
theorem dX3_put_46 : decode cX3_put 46 = .ok (.putfield 31, 3) := by decide +kernel
theorem dX3_put_49 : decode cX3_put 49 = .ok (.iload_n 3, 1) := by decide +kernel
theorem dX3_put_50 : decode cX3_put 50 = .ok (.iload_n 2, 1) := by decide +kernel
theorem dX3_put_51 : decode cX3_put 51 = .ok (.if_icmp .ge 30, 3) := by decide +kernel
theorem dX3_put_54 : decode cX3_put 54 = .ok (.aload_n 0, 1) := by decide +kernel
theorem dX3_put_55 : decode cX3_put 55 = .ok (.dup, 1) := by decide +kernel
theorem dX3_put_56 : decode cX3_put 56 = .ok (.getfield 37, 3) := by decide +kernel
theorem dX3_put_59 : decode cX3_put 59 = .ok (.iconst 1, 1) := by decide +kernel
theorem dX3_put_60 : decode cX3_put 60 = .ok (.iadd, 1) := by decide +kernel
theorem dX3_put_61 : decode cX3_put 61 = .ok (.putfield 37, 3) := by decide +kernel
theorem dX3_put_64 : decode cX3_put 64 = .ok (.aload_n 0, 1) := by decide +kernel
theorem dX3_put_65 : decode cX3_put 65 = .ok (.dup, 1) := by decide +kernel
theorem dX3_put_66 : decode cX3_put 66 = .ok (.getfield 34, 3) := by decide +kernel
theorem dX3_put_69 : decode cX3_put 69 = .ok (.iload_n 2, 1) := by decide +kernel
theorem dX3_put_70 : decode cX3_put 70 = .ok (.iload_n 3, 1) := by decide +kernel
theorem dX3_put_71 : decode cX3_put 71 = .ok (.isub, 1) := by decide +kernel
theorem dX3_put_72 : decode cX3_put 72 = .ok (.aload_n 0, 1) := by decide +kernel
theorem dX3_put_73 : decode cX3_put 73 = .ok (.getfield 18, 3) := by decide +kernel
theorem dX3_put_76 : decode cX3_put 76 = .ok (.imul, 1) := by decide +kernel
theorem dX3_put_77 : decode cX3_put 77 = .ok (.iadd, 1) := by decide +kernel
theorem dX3_put_78 : decode cX3_put 78 = .ok (.putfield 34, 3) := by decide +kernel
theorem dX3_put_81 : decode cX3_put 81 = .ok (.return_, 1) := by decide +kernel
theorem dX3_startOf_0 : decode cX3_startOf 0 = .ok (.iload_n 1, 1) := by decide +kernel
theorem dX3_startOf_1 : decode cX3_startOf 1 = .ok (.ifCond .le 20, 3) := by decide +kernel
theorem dX3_startOf_4 : decode cX3_startOf 4 = .ok (.iload_n 1, 1) := by decide +kernel
theorem dX3_startOf_5 : decode cX3_startOf 5 = .ok (.bipush 60, 2) := by decide +kernel
theorem dX3_startOf_7 : decode cX3_startOf 7 = .ok (.if_icmp .gt 14, 3) := by decide +kernel
theorem dX3_startOf_10 : decode cX3_startOf 10 = .ok (.aload_n 0, 1) := by decide +kernel
theorem dX3_startOf_11 : decode cX3_startOf 11 = .ok (.getfield 15, 3) := by decide +kernel
theorem dX3_startOf_14 : decode cX3_startOf 14 = .ok (.iload_n 1, 1) := by decide +kernel
theorem dX3_startOf_15 : decode cX3_startOf 15 = .ok (.iconst 1, 1) := by decide +kernel
theorem dX3_startOf_16 : decode cX3_startOf 16 = .ok (.isub, 1) := by decide +kernel
theorem dX3_startOf_17 : decode cX3_startOf 17 = .ok (.iaload, 1) := by decide +kernel
theorem dX3_startOf_18 : decode cX3_startOf 18 = .ok (.goto 4, 3) := by decide +kernel
theorem dX3_startOf_21 : decode cX3_startOf 21 = .ok (.iconst 0, 1) := by decide +kernel
theorem dX3_startOf_22 : decode cX3_startOf 22 = .ok (.ireturn, 1) := by decide +kernel
theorem dX3_head_0 : decode cX3_head 0 = .ok (.aload_n 0, 1) := by decide +kernel
theorem dX3_head_1 : decode cX3_head 1 = .ok (.getfield 22, 3) := by decide +kernel
theorem dX3_head_4 : decode cX3_head 4 = .ok (.aload_n 0, 1) := by decide +kernel
theorem dX3_head_5 : decode cX3_head 5 = .ok (.getfield 25, 3) := by decide +kernel
theorem dX3_head_8 : decode cX3_head 8 = .ok (.iadd, 1) := by decide +kernel
theorem dX3_head_9 : decode cX3_head 9 = .ok (.ireturn, 1) := by decide +kernel
theorem dX3_joints_0 : decode cX3_joints 0 = .ok (.iconst 0, 1) := by decide +kernel
theorem dX3_joints_1 : decode cX3_joints 1 = .ok (.aload_n 0, 1) := by decide +kernel
theorem dX3_joints_2 : decode cX3_joints 2 = .ok (.getfield 31, 3) := by decide +kernel
theorem dX3_joints_5 : decode cX3_joints 5 = .ok (.iconst 1, 1) := by decide +kernel
theorem dX3_joints_6 : decode cX3_joints 6 = .ok (.isub, 1) := by decide +kernel
theorem dX3_joints_7 : decode cX3_joints 7 = .ok (.invokestatic 44, 3) := by decide +kernel
theorem dX3_joints_10 : decode cX3_joints 10 = .ok (.ireturn, 1) := by decide +kernel
theorem dX3_isBrokenAt_0 : decode cX3_isBrokenAt 0 = .ok (.iconst 0, 1) := by decide +kernel
theorem dX3_isBrokenAt_1 : decode cX3_isBrokenAt 1 = .ok (.istore_n 3, 1) := by decide +kernel
theorem dX3_isBrokenAt_2 : decode cX3_isBrokenAt 2 = .ok (.iload_n 3, 1) := by decide +kernel
theorem dX3_isBrokenAt_3 : decode cX3_isBrokenAt 3 = .ok (.aload_n 0, 1) := by decide +kernel
theorem dX3_isBrokenAt_4 : decode cX3_isBrokenAt 4 = .ok (.getfield 31, 3) := by decide +kernel
theorem dX3_isBrokenAt_7 : decode cX3_isBrokenAt 7 = .ok (.iconst 1, 1) := by decide +kernel
theorem dX3_isBrokenAt_8 : decode cX3_isBrokenAt 8 = .ok (.isub, 1) := by decide +kernel
theorem dX3_isBrokenAt_9 : decode cX3_isBrokenAt 9 = .ok (.if_icmp .ge 26, 3) := by decide +kernel
theorem dX3_isBrokenAt_12 : decode cX3_isBrokenAt 12 = .ok (.aload_n 0, 1) := by decide +kernel
theorem dX3_isBrokenAt_13 : decode cX3_isBrokenAt 13 = .ok (.getfield 15, 3) := by decide +kernel
theorem dX3_isBrokenAt_16 : decode cX3_isBrokenAt 16 = .ok (.iload_n 3, 1) := by decide +kernel
theorem dX3_isBrokenAt_17 : decode cX3_isBrokenAt 17 = .ok (.iaload, 1) := by decide +kernel
theorem dX3_isBrokenAt_18 : decode cX3_isBrokenAt 18 = .ok (.iload_n 1, 1) := by decide +kernel
theorem dX3_isBrokenAt_19 : decode cX3_isBrokenAt 19 = .ok (.isub, 1) := by decide +kernel
theorem dX3_isBrokenAt_20 : decode cX3_isBrokenAt 20 = .ok (.invokestatic 50, 3) := by decide +kernel
theorem dX3_isBrokenAt_23 : decode cX3_isBrokenAt 23 = .ok (.iload_n 2, 1) := by decide +kernel
theorem dX3_isBrokenAt_24 : decode cX3_isBrokenAt 24 = .ok (.if_icmp .ge 5, 3) := by decide +kernel
theorem dX3_isBrokenAt_27 : decode cX3_isBrokenAt 27 = .ok (.iconst 0, 1) := by decide +kernel
theorem dX3_isBrokenAt_28 : decode cX3_isBrokenAt 28 = .ok (.ireturn, 1) := by decide +kernel
theorem dX3_isBrokenAt_29 : decode cX3_isBrokenAt 29 = .ok (.iinc 3 1, 3) := by decide +kernel
theorem dX3_isBrokenAt_32 : decode cX3_isBrokenAt 32 = .ok (.goto (-30), 3) := by decide +kernel
theorem dX3_isBrokenAt_35 : decode cX3_isBrokenAt 35 = .ok (.iconst 1, 1) := by decide +kernel
theorem dX3_isBrokenAt_36 : decode cX3_isBrokenAt 36 = .ok (.ireturn, 1) := by decide +kernel
theorem dX4_init_0 : decode cX4_init 0 = .ok (.aload_n 0, 1) := by decide +kernel
theorem dX4_init_1 : decode cX4_init 1 = .ok (.invokespecial 3, 3) := by decide +kernel
theorem dX4_init_4 : decode cX4_init 4 = .ok (.aload_n 0, 1) := by decide +kernel
theorem dX4_init_5 : decode cX4_init 5 = .ok (.bipush 8, 2) := by decide +kernel
theorem dX4_init_7 : decode cX4_init 7 = .ok (.newarray .int, 2) := by decide +kernel
theorem dX4_init_9 : decode cX4_init 9 = .ok (.putfield 9, 3) := by decide +kernel
theorem dX4_init_12 : decode cX4_init 12 = .ok (.aload_n 0, 1) := by decide +kernel
theorem dX4_init_13 : decode cX4_init 13 = .ok (.aload_n 1, 1) := by decide +kernel
theorem dX4_init_14 : decode cX4_init 14 = .ok (.putfield 15, 3) := by decide +kernel
theorem dX4_init_17 : decode cX4_init 17 = .ok (.return_, 1) := by decide +kernel
set_option maxRecDepth 20000 in
theorem ggX4_fill_X3_head : GoodIn wsX4_fill wsX3_head := goodIn_r _ [14, 15, 16, 91, 92, 93, 94, 95, 96, 97, 98, 99] (by decide +kernel) (by decide +kernel)
set_option maxRecDepth 20000 in
theorem gX4_fill_X3_head : GoodIn wsX4_fill (wsV RX4 25 RX3 yX3_head wsX3_head) := goodIn_app (goodIn_of _ (by decide +kernel)) ggX4_fill_X3_head
set_option maxRecDepth 20000 in
theorem ggX4_fill_X5_gaugeOf : GoodIn wsX4_fill wsX5_gaugeOf := goodIn_r _ [21, 22, 100, 101, 102, 103, 104, 105, 106, 107, 108] (by decide +kernel) (by decide +kernel)
set_option maxRecDepth 20000 in
theorem gX4_fill_X5_gaugeOf : GoodIn wsX4_fill (wsV RX4 31 RX5 yX5_gaugeOf wsX5_gaugeOf) := goodIn_app (goodIn_of _ (by decide +kernel)) ggX4_fill_X5_gaugeOf
set_option maxRecDepth 20000 in
theorem ggX4_fill_X5_roomAt : GoodIn wsX4_fill wsX5_roomAt := goodIn_r _ [26, 27, 28, 29, 30, 31, 32, 100, 101, 102, 103, 104, 105, 106, 107, 108] (by decide +kernel) (by decide +kernel)
set_option maxRecDepth 20000 in
theorem gX4_fill_X5_roomAt : GoodIn wsX4_fill (wsV RX4 37 RX5 yX5_roomAt wsX5_roomAt) := goodIn_app (goodIn_of _ (by decide +kernel)) ggX4_fill_X5_roomAt
set_option maxRecDepth 20000 in
theorem ggX4_fill_X3_begin : GoodIn wsX4_fill wsX3_begin := goodIn_r _ [36, 37, 15, 16, 38, 39, 40, 41, 91, 92, 93, 94, 95, 96, 97, 98, 99] (by decide +kernel) (by decide +kernel)
set_option maxRecDepth 20000 in
theorem gX4_fill_X3_begin : GoodIn wsX4_fill (wsV RX4 40 RX3 yX3_begin wsX3_begin) := goodIn_app (goodIn_of _ (by decide +kernel)) ggX4_fill_X3_begin
set_option maxRecDepth 20000 in
theorem ggX4_fill_X3_startOf : GoodIn wsX4_fill wsX3_startOf := goodIn_r _ [45, 46, 91, 92, 93, 94, 95, 96, 97, 98, 99] (by decide +kernel) (by decide +kernel)
set_option maxRecDepth 20000 in
theorem gX4_fill_X3_startOf : GoodIn wsX4_fill (wsV RX4 48 RX3 yX3_startOf wsX3_startOf) := goodIn_app (goodIn_of _ (by decide +kernel)) ggX4_fill_X3_startOf
set_option maxRecDepth 20000 in
theorem ggX4_fill_X4_endingAt : GoodIn wsX4_fill wsX4_endingAt := goodIn_r _ [51, 6, 52, 8, 9, 53, 54, 55, 50, 56, 57, 58, 1, 89, 90, 100, 101, 102, 103, 104, 105, 106, 107, 108, 91, 92, 93, 94, 95, 96, 97, 98, 99] (by decide +kernel) (by decide +kernel)
set_option maxRecDepth 20000 in
theorem gX4_fill_X4_endingAt : GoodIn wsX4_fill (wsV RX4 51 RX4 yX4_endingAt wsX4_endingAt) := goodIn_app (goodIn_of _ (by decide +kernel)) ggX4_fill_X4_endingAt
set_option maxRecDepth 20000 in
theorem ggX4_fill_X3_put : GoodIn wsX4_fill wsX3_put := goodIn_r _ [62, 39, 63, 46, 41, 40, 37, 64, 43, 44, 13, 45, 91, 92, 93, 94, 95, 96, 97, 98, 99] (by decide +kernel) (by decide +kernel)
set_option maxRecDepth 20000 in
theorem gX4_fill_X3_put : GoodIn wsX4_fill (wsV RX4 61 RX3 yX3_put wsX3_put) := goodIn_app (goodIn_of _ (by decide +kernel)) ggX4_fill_X3_put
set_option maxRecDepth 20000 in
theorem ggX4_fill_X4_putWithJoint : GoodIn wsX4_fill wsX4_putWithJoint := goodIn_r _ [68, 1, 6, 8, 69, 70, 71, 50, 72, 52, 73, 53, 54, 55, 56, 57, 58, 74, 75, 76, 13, 77, 39, 46, 78, 79, 31, 80, 59, 60, 61, 62, 63, 41, 40, 37, 64, 43, 44, 45, 81, 82, 83, 84, 85, 86, 87, 88, 89, 90, 100, 101, 102, 103, 104, 105, 106, 107, 108, 91, 92, 93, 94, 95, 96, 97, 98, 99] (by decide +kernel) (by decide +kernel)
set_option maxRecDepth 20000 in
theorem gX4_fill_X4_putWithJoint : GoodIn wsX4_fill (wsV RX4 65 RX4 yX4_putWithJoint wsX4_putWithJoint) := goodIn_app (goodIn_of _ (by decide +kernel)) ggX4_fill_X4_putWithJoint
theorem dX4_fill_0 : decode cX4_fill 0 = .ok (.aload_n 3, 1) := by decide +kernel
theorem dX4_fill_1 : decode cX4_fill 1 = .ok (.iconst 0, 1) := by decide +kernel
theorem dX4_fill_2 : decode cX4_fill 2 = .ok (.aload_n 0, 1) := by decide +kernel
theorem dX4_fill_3 : decode cX4_fill 3 = .ok (.getfield 9, 3) := by decide +kernel
theorem dX4_fill_6 : decode cX4_fill 6 = .ok (.iconst 0, 1) := by decide +kernel
theorem dX4_fill_7 : decode cX4_fill 7 = .ok (.bipush 8, 2) := by decide +kernel
theorem dX4_fill_9 : decode cX4_fill 9 = .ok (.invokestatic 19, 3) := by decide +kernel
theorem dX4_fill_12 : decode cX4_fill 12 = .ok (.aload 4, 2) := by decide +kernel
theorem dX4_fill_14 : decode cX4_fill 14 = .ok (.invokevirtual 25, 3) := by decide +kernel
theorem dX4_fill_17 : decode cX4_fill 17 = .ok (.istore 5, 2) := by decide +kernel
theorem dX4_fill_19 : decode cX4_fill 19 = .ok (.aload_n 1, 1) := by decide +kernel
theorem dX4_fill_20 : decode cX4_fill 20 = .ok (.iload_n 2, 1) := by decide +kernel
theorem dX4_fill_21 : decode cX4_fill 21 = .ok (.iload 5, 2) := by decide +kernel
theorem dX4_fill_23 : decode cX4_fill 23 = .ok (.aload_n 0, 1) := by decide +kernel
theorem dX4_fill_24 : decode cX4_fill 24 = .ok (.getfield 15, 3) := by decide +kernel
theorem dX4_fill_27 : decode cX4_fill 27 = .ok (.iload_n 2, 1) := by decide +kernel
theorem dX4_fill_28 : decode cX4_fill 28 = .ok (.invokevirtual 31, 3) := by decide +kernel
theorem dX4_fill_31 : decode cX4_fill 31 = .ok (.aload_n 0, 1) := by decide +kernel
theorem dX4_fill_32 : decode cX4_fill 32 = .ok (.getfield 15, 3) := by decide +kernel
theorem dX4_fill_35 : decode cX4_fill 35 = .ok (.iload 5, 2) := by decide +kernel
theorem dX4_fill_37 : decode cX4_fill 37 = .ok (.invokevirtual 37, 3) := by decide +kernel
theorem dX4_fill_40 : decode cX4_fill 40 = .ok (.invokevirtual 40, 3) := by decide +kernel
theorem dX4_fill_43 : decode cX4_fill 43 = .ok (.iconst 0, 1) := by decide +kernel
theorem dX4_fill_44 : decode cX4_fill 44 = .ok (.istore 6, 2) := by decide +kernel
theorem dX4_fill_46 : decode cX4_fill 46 = .ok (.iload 6, 2) := by decide +kernel
theorem dX4_fill_48 : decode cX4_fill 48 = .ok (.bipush 60, 2) := by decide +kernel
theorem dX4_fill_50 : decode cX4_fill 50 = .ok (.if_icmp .ge 72, 3) := by decide +kernel
theorem dX4_fill_53 : decode cX4_fill 53 = .ok (.aload_n 1, 1) := by decide +kernel
theorem dX4_fill_54 : decode cX4_fill 54 = .ok (.aload_n 1, 1) := by decide +kernel
theorem dX4_fill_55 : decode cX4_fill 55 = .ok (.getfield 44, 3) := by decide +kernel
theorem dX4_fill_58 : decode cX4_fill 58 = .ok (.invokevirtual 48, 3) := by decide +kernel
theorem dX4_fill_61 : decode cX4_fill 61 = .ok (.istore 7, 2) := by decide +kernel
theorem dX4_fill_63 : decode cX4_fill 63 = .ok (.aload_n 0, 1) := by decide +kernel
theorem dX4_fill_64 : decode cX4_fill 64 = .ok (.iload 7, 2) := by decide +kernel
theorem dX4_fill_66 : decode cX4_fill 66 = .ok (.aload_n 1, 1) := by decide +kernel
theorem dX4_fill_67 : decode cX4_fill 67 = .ok (.invokevirtual 51, 3) := by decide +kernel
theorem dX4_fill_70 : decode cX4_fill 70 = .ok (.istore 8, 2) := by decide +kernel
theorem dX4_fill_72 : decode cX4_fill 72 = .ok (.iload 8, 2) := by decide +kernel
theorem dX4_fill_74 : decode cX4_fill 74 = .ok (.ifCond .lt 28, 3) := by decide +kernel
theorem dX4_fill_77 : decode cX4_fill 77 = .ok (.aload_n 1, 1) := by decide +kernel
theorem dX4_fill_78 : decode cX4_fill 78 = .ok (.iload 8, 2) := by decide +kernel
theorem dX4_fill_80 : decode cX4_fill 80 = .ok (.aload_n 0, 1) := by decide +kernel
theorem dX4_fill_81 : decode cX4_fill 81 = .ok (.getfield 15, 3) := by decide +kernel
theorem dX4_fill_84 : decode cX4_fill 84 = .ok (.getfield 55, 3) := by decide +kernel
theorem dX4_fill_87 : decode cX4_fill 87 = .ok (.iload 8, 2) := by decide +kernel
theorem dX4_fill_89 : decode cX4_fill 89 = .ok (.iaload, 1) := by decide +kernel
theorem dX4_fill_90 : decode cX4_fill 90 = .ok (.aload_n 1, 1) := by decide +kernel
theorem dX4_fill_91 : decode cX4_fill 91 = .ok (.getfield 58, 3) := by decide +kernel
theorem dX4_fill_94 : decode cX4_fill 94 = .ok (.iload 7, 2) := by decide +kernel
theorem dX4_fill_96 : decode cX4_fill 96 = .ok (.isub, 1) := by decide +kernel
theorem dX4_fill_97 : decode cX4_fill 97 = .ok (.invokevirtual 61, 3) := by decide +kernel
theorem dX4_fill_100 : decode cX4_fill 100 = .ok (.iconst 1, 1) := by decide +kernel
theorem dX4_fill_101 : decode cX4_fill 101 = .ok (.ireturn, 1) := by decide +kernel
theorem dX4_fill_102 : decode cX4_fill 102 = .ok (.aload_n 0, 1) := by decide +kernel
theorem dX4_fill_103 : decode cX4_fill 103 = .ok (.aload_n 1, 1) := by decide +kernel
theorem dX4_fill_104 : decode cX4_fill 104 = .ok (.iload 7, 2) := by decide +kernel
theorem dX4_fill_106 : decode cX4_fill 106 = .ok (.aload 4, 2) := by decide +kernel
theorem dX4_fill_108 : decode cX4_fill 108 = .ok (.invokevirtual 65, 3) := by decide +kernel
theorem dX4_fill_111 : decode cX4_fill 111 = .ok (.ifCond .ne 5, 3) := by decide +kernel
theorem dX4_fill_114 : decode cX4_fill 114 = .ok (.iconst 0, 1) := by decide +kernel
theorem dX4_fill_115 : decode cX4_fill 115 = .ok (.ireturn, 1) := by decide +kernel
theorem dX4_fill_116 : decode cX4_fill 116 = .ok (.iinc 6 1, 3) := by decide +kernel
theorem dX4_fill_119 : decode cX4_fill 119 = .ok (.goto (-73), 3) := by decide +kernel
theorem dX4_fill_122 : decode cX4_fill 122 = .ok (.iconst 0, 1) := by decide +kernel
theorem dX4_fill_123 : decode cX4_fill 123 = .ok (.ireturn, 1) := by decide +kernel
set_option maxRecDepth 20000 in
theorem ggX4_putWithJoint_X4_brokenAt : GoodIn wsX4_putWithJoint wsX4_brokenAt := goodIn_r _ [8, 2, 9, 3, 10, 11, 12, 13, 7, 14, 15, 16, 1, 17, 18, 19, 20, 21, 22, 23, 24, 25, 26, 27, 48, 49, 50, 51, 52, 53, 54, 55, 56, 57, 58, 59, 60, 61, 62, 63, 64, 65, 66, 67] (by decide +kernel) (by decide +kernel)
set_option maxRecDepth 20000 in
theorem gX4_putWithJoint_X4_brokenAt : GoodIn wsX4_putWithJoint (wsV RX4 69 RX4 yX4_brokenAt wsX4_brokenAt) := goodIn_app (goodIn_of _ (by decide +kernel)) ggX4_putWithJoint_X4_brokenAt
set_option maxRecDepth 20000 in
theorem ggX4_putWithJoint_X3_put : GoodIn wsX4_putWithJoint wsX3_put := goodIn_r _ [31, 22, 32, 23, 33, 34, 35, 36, 37, 38, 20, 39, 59, 60, 61, 62, 63, 64, 65, 66, 67] (by decide +kernel) (by decide +kernel)
set_option maxRecDepth 20000 in
theorem gX4_putWithJoint_X3_put : GoodIn wsX4_putWithJoint (wsV RX4 61 RX3 yX3_put wsX3_put) := goodIn_app (goodIn_of _ (by decide +kernel)) ggX4_putWithJoint_X3_put
set_option maxRecDepth 20000 in
theorem ggX4_putWithJoint_X4_broadestFor : GoodIn wsX4_putWithJoint wsX4_broadestFor := goodIn_r _ [43, 2, 9, 11, 12, 13, 7, 14, 15, 16, 1, 48, 49, 50, 51, 52, 53, 54, 55, 56, 57, 58, 59, 60, 61, 62, 63, 64, 65, 66, 67] (by decide +kernel) (by decide +kernel)
set_option maxRecDepth 20000 in
theorem gX4_putWithJoint_X4_broadestFor : GoodIn wsX4_putWithJoint (wsV RX4 73 RX4 yX4_broadestFor wsX4_broadestFor) := goodIn_app (goodIn_of _ (by decide +kernel)) ggX4_putWithJoint_X4_broadestFor
set_option maxRecDepth 20000 in
theorem ggX4_putWithJoint_X4_cutAt : GoodIn wsX4_putWithJoint wsX4_cutAt := goodIn_r _ [47, 2, 10, 17, 18, 19, 20, 21, 22, 23, 24, 25, 26, 27, 48, 49, 50, 51, 52, 53, 54, 55, 56, 57, 58, 59, 60, 61, 62, 63, 64, 65, 66, 67] (by decide +kernel) (by decide +kernel)
set_option maxRecDepth 20000 in
theorem gX4_putWithJoint_X4_cutAt : GoodIn wsX4_putWithJoint (wsV RX4 77 RX4 yX4_cutAt wsX4_cutAt) := goodIn_app (goodIn_of _ (by decide +kernel)) ggX4_putWithJoint_X4_cutAt
theorem dX4_putWithJoint_0 : decode cX4_putWithJoint 0 = .ok (.aload_n 0, 1) := by decide +kernel
theorem dX4_putWithJoint_1 : decode cX4_putWithJoint 1 = .ok (.iload_n 2, 1) := by decide +kernel
theorem dX4_putWithJoint_2 : decode cX4_putWithJoint 2 = .ok (.aload_n 1, 1) := by decide +kernel
theorem dX4_putWithJoint_3 : decode cX4_putWithJoint 3 = .ok (.aload_n 3, 1) := by decide +kernel
theorem dX4_putWithJoint_4 : decode cX4_putWithJoint 4 = .ok (.invokevirtual 69, 3) := by decide +kernel
theorem dX4_putWithJoint_7 : decode cX4_putWithJoint 7 = .ok (.istore 4, 2) := by decide +kernel
theorem dX4_putWithJoint_9 : decode cX4_putWithJoint 9 = .ok (.iload 4, 2) := by decide +kernel
theorem dX4_putWithJoint_11 : decode cX4_putWithJoint 11 = .ok (.ifCond .lt 42, 3) := by decide +kernel
theorem dX4_putWithJoint_14 : decode cX4_putWithJoint 14 = .ok (.aload_n 0, 1) := by decide +kernel
theorem dX4_putWithJoint_15 : decode cX4_putWithJoint 15 = .ok (.getfield 9, 3) := by decide +kernel
theorem dX4_putWithJoint_18 : decode cX4_putWithJoint 18 = .ok (.iload 4, 2) := by decide +kernel
theorem dX4_putWithJoint_20 : decode cX4_putWithJoint 20 = .ok (.dup2, 1) := by decide +kernel
theorem dX4_putWithJoint_21 : decode cX4_putWithJoint 21 = .ok (.iaload, 1) := by decide +kernel
theorem dX4_putWithJoint_22 : decode cX4_putWithJoint 22 = .ok (.iconst 1, 1) := by decide +kernel
theorem dX4_putWithJoint_23 : decode cX4_putWithJoint 23 = .ok (.isub, 1) := by decide +kernel
theorem dX4_putWithJoint_24 : decode cX4_putWithJoint 24 = .ok (.iastore, 1) := by decide +kernel
theorem dX4_putWithJoint_25 : decode cX4_putWithJoint 25 = .ok (.aload_n 1, 1) := by decide +kernel
theorem dX4_putWithJoint_26 : decode cX4_putWithJoint 26 = .ok (.iload 4, 2) := by decide +kernel
theorem dX4_putWithJoint_28 : decode cX4_putWithJoint 28 = .ok (.aload_n 0, 1) := by decide +kernel
theorem dX4_putWithJoint_29 : decode cX4_putWithJoint 29 = .ok (.getfield 15, 3) := by decide +kernel
theorem dX4_putWithJoint_32 : decode cX4_putWithJoint 32 = .ok (.getfield 55, 3) := by decide +kernel
theorem dX4_putWithJoint_35 : decode cX4_putWithJoint 35 = .ok (.iload 4, 2) := by decide +kernel
theorem dX4_putWithJoint_37 : decode cX4_putWithJoint 37 = .ok (.iaload, 1) := by decide +kernel
theorem dX4_putWithJoint_38 : decode cX4_putWithJoint 38 = .ok (.aload_n 0, 1) := by decide +kernel
theorem dX4_putWithJoint_39 : decode cX4_putWithJoint 39 = .ok (.getfield 15, 3) := by decide +kernel
theorem dX4_putWithJoint_42 : decode cX4_putWithJoint 42 = .ok (.getfield 55, 3) := by decide +kernel
theorem dX4_putWithJoint_45 : decode cX4_putWithJoint 45 = .ok (.iload 4, 2) := by decide +kernel
theorem dX4_putWithJoint_47 : decode cX4_putWithJoint 47 = .ok (.iaload, 1) := by decide +kernel
theorem dX4_putWithJoint_48 : decode cX4_putWithJoint 48 = .ok (.invokevirtual 61, 3) := by decide +kernel
theorem dX4_putWithJoint_51 : decode cX4_putWithJoint 51 = .ok (.iconst 1, 1) := by decide +kernel
theorem dX4_putWithJoint_52 : decode cX4_putWithJoint 52 = .ok (.ireturn, 1) := by decide +kernel
theorem dX4_putWithJoint_53 : decode cX4_putWithJoint 53 = .ok (.aload_n 0, 1) := by decide +kernel
theorem dX4_putWithJoint_54 : decode cX4_putWithJoint 54 = .ok (.aload_n 1, 1) := by decide +kernel
theorem dX4_putWithJoint_55 : decode cX4_putWithJoint 55 = .ok (.invokevirtual 73, 3) := by decide +kernel
theorem dX4_putWithJoint_58 : decode cX4_putWithJoint 58 = .ok (.istore 5, 2) := by decide +kernel
theorem dX4_putWithJoint_60 : decode cX4_putWithJoint 60 = .ok (.iload 5, 2) := by decide +kernel
theorem dX4_putWithJoint_62 : decode cX4_putWithJoint 62 = .ok (.ifCond .ge 5, 3) := by decide +kernel
theorem dX4_putWithJoint_65 : decode cX4_putWithJoint 65 = .ok (.iconst 0, 1) := by decide +kernel
theorem dX4_putWithJoint_66 : decode cX4_putWithJoint 66 = .ok (.ireturn, 1) := by decide +kernel
theorem dX4_putWithJoint_67 : decode cX4_putWithJoint 67 = .ok (.aload_n 0, 1) := by decide +kernel
theorem dX4_putWithJoint_68 : decode cX4_putWithJoint 68 = .ok (.iload_n 2, 1) := by decide +kernel
theorem dX4_putWithJoint_69 : decode cX4_putWithJoint 69 = .ok (.aload_n 0, 1) := by decide +kernel
theorem dX4_putWithJoint_70 : decode cX4_putWithJoint 70 = .ok (.getfield 15, 3) := by decide +kernel
theorem dX4_putWithJoint_73 : decode cX4_putWithJoint 73 = .ok (.getfield 55, 3) := by decide +kernel
theorem dX4_putWithJoint_76 : decode cX4_putWithJoint 76 = .ok (.iload 5, 2) := by decide +kernel
theorem dX4_putWithJoint_78 : decode cX4_putWithJoint 78 = .ok (.iaload, 1) := by decide +kernel
theorem dX4_putWithJoint_79 : decode cX4_putWithJoint 79 = .ok (.aload_n 3, 1) := by decide +kernel
theorem dX4_putWithJoint_80 : decode cX4_putWithJoint 80 = .ok (.invokevirtual 77, 3) := by decide +kernel
theorem dX4_putWithJoint_83 : decode cX4_putWithJoint 83 = .ok (.istore 6, 2) := by decide +kernel
theorem dX4_putWithJoint_85 : decode cX4_putWithJoint 85 = .ok (.iload 6, 2) := by decide +kernel
theorem dX4_putWithJoint_87 : decode cX4_putWithJoint 87 = .ok (.iconst 1, 1) := by decide +kernel
theorem dX4_putWithJoint_88 : decode cX4_putWithJoint 88 = .ok (.if_icmp .ge 5, 3) := by decide +kernel
theorem dX4_putWithJoint_91 : decode cX4_putWithJoint 91 = .ok (.iconst 0, 1) := by decide +kernel
theorem dX4_putWithJoint_92 : decode cX4_putWithJoint 92 = .ok (.ireturn, 1) := by decide +kernel
theorem dX4_putWithJoint_93 : decode cX4_putWithJoint 93 = .ok (.aload_n 0, 1) := by decide +kernel
theorem dX4_putWithJoint_94 : decode cX4_putWithJoint 94 = .ok (.getfield 9, 3) := by decide +kernel
theorem dX4_putWithJoint_97 : decode cX4_putWithJoint 97 = .ok (.iload 5, 2) := by decide +kernel
theorem dX4_putWithJoint_99 : decode cX4_putWithJoint 99 = .ok (.dup2, 1) := by decide +kernel
theorem dX4_putWithJoint_100 : decode cX4_putWithJoint 100 = .ok (.iaload, 1) := by decide +kernel
theorem dX4_putWithJoint_101 : decode cX4_putWithJoint 101 = .ok (.iconst 1, 1) := by decide +kernel
theorem dX4_putWithJoint_102 : decode cX4_putWithJoint 102 = .ok (.isub, 1) := by decide +kernel
theorem dX4_putWithJoint_103 : decode cX4_putWithJoint 103 = .ok (.iastore, 1) := by decide +kernel
theorem dX4_putWithJoint_104 : decode cX4_putWithJoint 104 = .ok (.aload_n 1, 1) := by decide +kernel
theorem dX4_putWithJoint_105 : decode cX4_putWithJoint 105 = .ok (.iload 5, 2) := by decide +kernel
theorem dX4_putWithJoint_107 : decode cX4_putWithJoint 107 = .ok (.aload_n 0, 1) := by decide +kernel
theorem dX4_putWithJoint_108 : decode cX4_putWithJoint 108 = .ok (.getfield 15, 3) := by decide +kernel
theorem dX4_putWithJoint_111 : decode cX4_putWithJoint 111 = .ok (.getfield 55, 3) := by decide +kernel
theorem dX4_putWithJoint_114 : decode cX4_putWithJoint 114 = .ok (.iload 5, 2) := by decide +kernel
theorem dX4_putWithJoint_116 : decode cX4_putWithJoint 116 = .ok (.iaload, 1) := by decide +kernel
theorem dX4_putWithJoint_117 : decode cX4_putWithJoint 117 = .ok (.iload 6, 2) := by decide +kernel
theorem dX4_putWithJoint_119 : decode cX4_putWithJoint 119 = .ok (.invokevirtual 61, 3) := by decide +kernel
theorem dX4_putWithJoint_122 : decode cX4_putWithJoint 122 = .ok (.iconst 1, 1) := by decide +kernel
theorem dX4_putWithJoint_123 : decode cX4_putWithJoint 123 = .ok (.ireturn, 1) := by decide +kernel
theorem dX4_serves_0 : decode cX4_serves 0 = .ok (.aload_n 0, 1) := by decide +kernel
theorem dX4_serves_1 : decode cX4_serves 1 = .ok (.getfield 15, 3) := by decide +kernel
theorem dX4_serves_4 : decode cX4_serves 4 = .ok (.getfield 81, 3) := by decide +kernel
theorem dX4_serves_7 : decode cX4_serves 7 = .ok (.iload_n 1, 1) := by decide +kernel
theorem dX4_serves_8 : decode cX4_serves 8 = .ok (.iaload, 1) := by decide +kernel
theorem dX4_serves_9 : decode cX4_serves 9 = .ok (.aload_n 2, 1) := by decide +kernel
theorem dX4_serves_10 : decode cX4_serves 10 = .ok (.getfield 84, 3) := by decide +kernel
theorem dX4_serves_13 : decode cX4_serves 13 = .ok (.if_icmp .ne 16, 3) := by decide +kernel
theorem dX4_serves_16 : decode cX4_serves 16 = .ok (.aload_n 0, 1) := by decide +kernel
theorem dX4_serves_17 : decode cX4_serves 17 = .ok (.getfield 9, 3) := by decide +kernel
theorem dX4_serves_20 : decode cX4_serves 20 = .ok (.iload_n 1, 1) := by decide +kernel
theorem dX4_serves_21 : decode cX4_serves 21 = .ok (.iaload, 1) := by decide +kernel
theorem dX4_serves_22 : decode cX4_serves 22 = .ok (.ifCond .le 7, 3) := by decide +kernel
theorem dX4_serves_25 : decode cX4_serves 25 = .ok (.iconst 1, 1) := by decide +kernel
theorem dX4_serves_26 : decode cX4_serves 26 = .ok (.goto 4, 3) := by decide +kernel
theorem dX4_serves_29 : decode cX4_serves 29 = .ok (.iconst 0, 1) := by decide +kernel
theorem dX4_serves_30 : decode cX4_serves 30 = .ok (.ireturn, 1) := by decide +kernel
set_option maxRecDepth 20000 in
theorem ggX4_endingAt_X4_serves : GoodIn wsX4_endingAt wsX4_serves := goodIn_r _ [9, 1, 10, 11, 12, 13, 14, 15, 16, 17, 18, 19, 20, 21, 22, 23, 24, 25, 26, 27, 28, 29, 30, 31, 32] (by decide +kernel) (by decide +kernel)
set_option maxRecDepth 20000 in
theorem gX4_endingAt_X4_serves : GoodIn wsX4_endingAt (wsV RX4 89 RX4 yX4_serves wsX4_serves) := goodIn_app (goodIn_of _ (by decide +kernel)) ggX4_endingAt_X4_serves
theorem dX4_endingAt_0 : decode cX4_endingAt 0 = .ok (.aload_n 0, 1) := by decide +kernel
theorem dX4_endingAt_1 : decode cX4_endingAt 1 = .ok (.getfield 15, 3) := by decide +kernel
theorem dX4_endingAt_4 : decode cX4_endingAt 4 = .ok (.getfield 86, 3) := by decide +kernel
theorem dX4_endingAt_7 : decode cX4_endingAt 7 = .ok (.iconst 1, 1) := by decide +kernel
theorem dX4_endingAt_8 : decode cX4_endingAt 8 = .ok (.isub, 1) := by decide +kernel
theorem dX4_endingAt_9 : decode cX4_endingAt 9 = .ok (.istore_n 3, 1) := by decide +kernel
theorem dX4_endingAt_10 : decode cX4_endingAt 10 = .ok (.iload_n 3, 1) := by decide +kernel
theorem dX4_endingAt_11 : decode cX4_endingAt 11 = .ok (.ifCond .lt 38, 3) := by decide +kernel
theorem dX4_endingAt_14 : decode cX4_endingAt 14 = .ok (.aload_n 0, 1) := by decide +kernel
theorem dX4_endingAt_15 : decode cX4_endingAt 15 = .ok (.iload_n 3, 1) := by decide +kernel
theorem dX4_endingAt_16 : decode cX4_endingAt 16 = .ok (.aload_n 2, 1) := by decide +kernel
theorem dX4_endingAt_17 : decode cX4_endingAt 17 = .ok (.invokevirtual 89, 3) := by decide +kernel
theorem dX4_endingAt_20 : decode cX4_endingAt 20 = .ok (.ifCond .eq 23, 3) := by decide +kernel
theorem dX4_endingAt_23 : decode cX4_endingAt 23 = .ok (.iload_n 1, 1) := by decide +kernel
theorem dX4_endingAt_24 : decode cX4_endingAt 24 = .ok (.aload_n 0, 1) := by decide +kernel
theorem dX4_endingAt_25 : decode cX4_endingAt 25 = .ok (.getfield 15, 3) := by decide +kernel
theorem dX4_endingAt_28 : decode cX4_endingAt 28 = .ok (.getfield 55, 3) := by decide +kernel
theorem dX4_endingAt_31 : decode cX4_endingAt 31 = .ok (.iload_n 3, 1) := by decide +kernel
theorem dX4_endingAt_32 : decode cX4_endingAt 32 = .ok (.iaload, 1) := by decide +kernel
theorem dX4_endingAt_33 : decode cX4_endingAt 33 = .ok (.iadd, 1) := by decide +kernel
theorem dX4_endingAt_34 : decode cX4_endingAt 34 = .ok (.aload_n 2, 1) := by decide +kernel
theorem dX4_endingAt_35 : decode cX4_endingAt 35 = .ok (.getfield 58, 3) := by decide +kernel
theorem dX4_endingAt_38 : decode cX4_endingAt 38 = .ok (.if_icmp .lt 5, 3) := by decide +kernel
theorem dX4_endingAt_41 : decode cX4_endingAt 41 = .ok (.iload_n 3, 1) := by decide +kernel
theorem dX4_endingAt_42 : decode cX4_endingAt 42 = .ok (.ireturn, 1) := by decide +kernel
theorem dX4_endingAt_43 : decode cX4_endingAt 43 = .ok (.iinc 3 (-1), 3) := by decide +kernel
theorem dX4_endingAt_46 : decode cX4_endingAt 46 = .ok (.goto (-36), 3) := by decide +kernel
theorem dX4_endingAt_49 : decode cX4_endingAt 49 = .ok (.bipush (-4), 2) := by decide +kernel
theorem dX4_endingAt_51 : decode cX4_endingAt 51 = .ok (.ireturn, 1) := by decide +kernel
set_option maxRecDepth 20000 in
theorem ggX4_brokenAt_X4_serves : GoodIn wsX4_brokenAt wsX4_serves := goodIn_r _ [9, 1, 10, 11, 12, 24, 25, 26, 27, 28, 29, 30, 31, 32, 33, 34, 35, 36, 37, 38, 39, 40, 41, 42, 43] (by decide +kernel) (by decide +kernel)
set_option maxRecDepth 20000 in
theorem gX4_brokenAt_X4_serves : GoodIn wsX4_brokenAt (wsV RX4 89 RX4 yX4_serves wsX4_serves) := goodIn_app (goodIn_of _ (by decide +kernel)) ggX4_brokenAt_X4_serves
set_option maxRecDepth 20000 in
theorem ggX4_brokenAt_X3_isBrokenAt : GoodIn wsX4_brokenAt wsX3_isBrokenAt := goodIn_r _ [17, 18, 19, 20, 21, 22, 23, 35, 36, 37, 38, 39, 40, 41, 42, 43] (by decide +kernel) (by decide +kernel)
set_option maxRecDepth 20000 in
theorem gX4_brokenAt_X3_isBrokenAt : GoodIn wsX4_brokenAt (wsV RX4 96 RX3 yX3_isBrokenAt wsX3_isBrokenAt) := goodIn_app (goodIn_of _ (by decide +kernel)) ggX4_brokenAt_X3_isBrokenAt
theorem dX4_brokenAt_0 : decode cX4_brokenAt 0 = .ok (.iconst 0, 1) := by decide +kernel
theorem dX4_brokenAt_1 : decode cX4_brokenAt 1 = .ok (.istore 4, 2) := by decide +kernel
theorem dX4_brokenAt_3 : decode cX4_brokenAt 3 = .ok (.iload 4, 2) := by decide +kernel
theorem dX4_brokenAt_5 : decode cX4_brokenAt 5 = .ok (.aload_n 0, 1) := by decide +kernel
theorem dX4_brokenAt_6 : decode cX4_brokenAt 6 = .ok (.getfield 15, 3) := by decide +kernel
theorem dX4_brokenAt_9 : decode cX4_brokenAt 9 = .ok (.getfield 86, 3) := by decide +kernel
theorem dX4_brokenAt_12 : decode cX4_brokenAt 12 = .ok (.if_icmp .ge 48, 3) := by decide +kernel
theorem dX4_brokenAt_15 : decode cX4_brokenAt 15 = .ok (.aload_n 0, 1) := by decide +kernel
theorem dX4_brokenAt_16 : decode cX4_brokenAt 16 = .ok (.iload 4, 2) := by decide +kernel
theorem dX4_brokenAt_18 : decode cX4_brokenAt 18 = .ok (.aload_n 2, 1) := by decide +kernel
theorem dX4_brokenAt_19 : decode cX4_brokenAt 19 = .ok (.invokevirtual 89, 3) := by decide +kernel
theorem dX4_brokenAt_22 : decode cX4_brokenAt 22 = .ok (.ifCond .eq 32, 3) := by decide +kernel
theorem dX4_brokenAt_25 : decode cX4_brokenAt 25 = .ok (.aload_n 3, 1) := by decide +kernel
theorem dX4_brokenAt_26 : decode cX4_brokenAt 26 = .ok (.iload_n 1, 1) := by decide +kernel
theorem dX4_brokenAt_27 : decode cX4_brokenAt 27 = .ok (.aload_n 0, 1) := by decide +kernel
theorem dX4_brokenAt_28 : decode cX4_brokenAt 28 = .ok (.getfield 15, 3) := by decide +kernel
theorem dX4_brokenAt_31 : decode cX4_brokenAt 31 = .ok (.getfield 55, 3) := by decide +kernel
theorem dX4_brokenAt_34 : decode cX4_brokenAt 34 = .ok (.iload 4, 2) := by decide +kernel
theorem dX4_brokenAt_36 : decode cX4_brokenAt 36 = .ok (.iaload, 1) := by decide +kernel
theorem dX4_brokenAt_37 : decode cX4_brokenAt 37 = .ok (.iadd, 1) := by decide +kernel
theorem dX4_brokenAt_38 : decode cX4_brokenAt 38 = .ok (.aload_n 0, 1) := by decide +kernel
theorem dX4_brokenAt_39 : decode cX4_brokenAt 39 = .ok (.getfield 15, 3) := by decide +kernel
theorem dX4_brokenAt_42 : decode cX4_brokenAt 42 = .ok (.getfield 93, 3) := by decide +kernel
theorem dX4_brokenAt_45 : decode cX4_brokenAt 45 = .ok (.invokevirtual 96, 3) := by decide +kernel
theorem dX4_brokenAt_48 : decode cX4_brokenAt 48 = .ok (.ifCond .eq 6, 3) := by decide +kernel
theorem dX4_brokenAt_51 : decode cX4_brokenAt 51 = .ok (.iload 4, 2) := by decide +kernel
theorem dX4_brokenAt_53 : decode cX4_brokenAt 53 = .ok (.ireturn, 1) := by decide +kernel
theorem dX4_brokenAt_54 : decode cX4_brokenAt 54 = .ok (.iinc 4 1, 3) := by decide +kernel
theorem dX4_brokenAt_57 : decode cX4_brokenAt 57 = .ok (.goto (-54), 3) := by decide +kernel
theorem dX4_brokenAt_60 : decode cX4_brokenAt 60 = .ok (.bipush (-4), 2) := by decide +kernel
theorem dX4_brokenAt_62 : decode cX4_brokenAt 62 = .ok (.ireturn, 1) := by decide +kernel
set_option maxRecDepth 20000 in
theorem ggX4_broadestFor_X4_serves : GoodIn wsX4_broadestFor wsX4_serves := goodIn_r _ [7, 1, 8, 9, 10, 11, 12, 13, 14, 15, 16, 17, 18, 19, 20, 21, 22, 23, 24, 25, 26, 27, 28, 29, 30] (by decide +kernel) (by decide +kernel)
set_option maxRecDepth 20000 in
theorem gX4_broadestFor_X4_serves : GoodIn wsX4_broadestFor (wsV RX4 89 RX4 yX4_serves wsX4_serves) := goodIn_app (goodIn_of _ (by decide +kernel)) ggX4_broadestFor_X4_serves
theorem dX4_broadestFor_0 : decode cX4_broadestFor 0 = .ok (.iconst 0, 1) := by decide +kernel
theorem dX4_broadestFor_1 : decode cX4_broadestFor 1 = .ok (.istore_n 2, 1) := by decide +kernel
theorem dX4_broadestFor_2 : decode cX4_broadestFor 2 = .ok (.iload_n 2, 1) := by decide +kernel
theorem dX4_broadestFor_3 : decode cX4_broadestFor 3 = .ok (.aload_n 0, 1) := by decide +kernel
theorem dX4_broadestFor_4 : decode cX4_broadestFor 4 = .ok (.getfield 15, 3) := by decide +kernel
theorem dX4_broadestFor_7 : decode cX4_broadestFor 7 = .ok (.getfield 86, 3) := by decide +kernel
theorem dX4_broadestFor_10 : decode cX4_broadestFor 10 = .ok (.if_icmp .ge 20, 3) := by decide +kernel
theorem dX4_broadestFor_13 : decode cX4_broadestFor 13 = .ok (.aload_n 0, 1) := by decide +kernel
theorem dX4_broadestFor_14 : decode cX4_broadestFor 14 = .ok (.iload_n 2, 1) := by decide +kernel
theorem dX4_broadestFor_15 : decode cX4_broadestFor 15 = .ok (.aload_n 1, 1) := by decide +kernel
theorem dX4_broadestFor_16 : decode cX4_broadestFor 16 = .ok (.invokevirtual 89, 3) := by decide +kernel
theorem dX4_broadestFor_19 : decode cX4_broadestFor 19 = .ok (.ifCond .eq 5, 3) := by decide +kernel
theorem dX4_broadestFor_22 : decode cX4_broadestFor 22 = .ok (.iload_n 2, 1) := by decide +kernel
theorem dX4_broadestFor_23 : decode cX4_broadestFor 23 = .ok (.ireturn, 1) := by decide +kernel
theorem dX4_broadestFor_24 : decode cX4_broadestFor 24 = .ok (.iinc 2 1, 3) := by decide +kernel
theorem dX4_broadestFor_27 : decode cX4_broadestFor 27 = .ok (.goto (-25), 3) := by decide +kernel
theorem dX4_broadestFor_30 : decode cX4_broadestFor 30 = .ok (.bipush (-4), 2) := by decide +kernel
theorem dX4_broadestFor_32 : decode cX4_broadestFor 32 = .ok (.ireturn, 1) := by decide +kernel
set_option maxRecDepth 20000 in
theorem ggX4_cutAt_X3_isBrokenAt : GoodIn wsX4_cutAt wsX3_isBrokenAt := goodIn_r _ [7, 8, 9, 10, 11, 12, 13, 25, 26, 27, 28, 29, 30, 31, 32, 33] (by decide +kernel) (by decide +kernel)
set_option maxRecDepth 20000 in
theorem gX4_cutAt_X3_isBrokenAt : GoodIn wsX4_cutAt (wsV RX4 96 RX3 yX3_isBrokenAt wsX3_isBrokenAt) := goodIn_app (goodIn_of _ (by decide +kernel)) ggX4_cutAt_X3_isBrokenAt
theorem dX4_cutAt_0 : decode cX4_cutAt 0 = .ok (.iload_n 2, 1) := by decide +kernel
theorem dX4_cutAt_1 : decode cX4_cutAt 1 = .ok (.iconst 1, 1) := by decide +kernel
theorem dX4_cutAt_2 : decode cX4_cutAt 2 = .ok (.isub, 1) := by decide +kernel
theorem dX4_cutAt_3 : decode cX4_cutAt 3 = .ok (.istore 4, 2) := by decide +kernel
theorem dX4_cutAt_5 : decode cX4_cutAt 5 = .ok (.iload 4, 2) := by decide +kernel
theorem dX4_cutAt_7 : decode cX4_cutAt 7 = .ok (.iconst 1, 1) := by decide +kernel
theorem dX4_cutAt_8 : decode cX4_cutAt 8 = .ok (.if_icmp .lt 30, 3) := by decide +kernel
theorem dX4_cutAt_11 : decode cX4_cutAt 11 = .ok (.aload_n 3, 1) := by decide +kernel
theorem dX4_cutAt_12 : decode cX4_cutAt 12 = .ok (.iload_n 1, 1) := by decide +kernel
theorem dX4_cutAt_13 : decode cX4_cutAt 13 = .ok (.iload 4, 2) := by decide +kernel
theorem dX4_cutAt_15 : decode cX4_cutAt 15 = .ok (.iadd, 1) := by decide +kernel
theorem dX4_cutAt_16 : decode cX4_cutAt 16 = .ok (.aload_n 0, 1) := by decide +kernel
theorem dX4_cutAt_17 : decode cX4_cutAt 17 = .ok (.getfield 15, 3) := by decide +kernel
theorem dX4_cutAt_20 : decode cX4_cutAt 20 = .ok (.getfield 93, 3) := by decide +kernel
theorem dX4_cutAt_23 : decode cX4_cutAt 23 = .ok (.invokevirtual 96, 3) := by decide +kernel
theorem dX4_cutAt_26 : decode cX4_cutAt 26 = .ok (.ifCond .eq 6, 3) := by decide +kernel
theorem dX4_cutAt_29 : decode cX4_cutAt 29 = .ok (.iload 4, 2) := by decide +kernel
theorem dX4_cutAt_31 : decode cX4_cutAt 31 = .ok (.ireturn, 1) := by decide +kernel
theorem dX4_cutAt_32 : decode cX4_cutAt 32 = .ok (.iinc 4 (-1), 3) := by decide +kernel
theorem dX4_cutAt_35 : decode cX4_cutAt 35 = .ok (.goto (-30), 3) := by decide +kernel
theorem dX4_cutAt_38 : decode cX4_cutAt 38 = .ok (.bipush (-4), 2) := by decide +kernel
theorem dX4_cutAt_40 : decode cX4_cutAt 40 = .ok (.ireturn, 1) := by decide +kernel
theorem dX5_init_0 : decode cX5_init 0 = .ok (.aload_n 0, 1) := by decide +kernel
theorem dX5_init_1 : decode cX5_init 1 = .ok (.invokespecial 3, 3) := by decide +kernel
theorem dX5_init_4 : decode cX5_init 4 = .ok (.aload_n 0, 1) := by decide +kernel
theorem dX5_init_5 : decode cX5_init 5 = .ok (.bipush 8, 2) := by decide +kernel
theorem dX5_init_7 : decode cX5_init 7 = .ok (.newarray .int, 2) := by decide +kernel
theorem dX5_init_9 : decode cX5_init 9 = .ok (.putfield 9, 3) := by decide +kernel
theorem dX5_init_12 : decode cX5_init 12 = .ok (.aload_n 0, 1) := by decide +kernel
theorem dX5_init_13 : decode cX5_init 13 = .ok (.bipush 8, 2) := by decide +kernel
theorem dX5_init_15 : decode cX5_init 15 = .ok (.newarray .int, 2) := by decide +kernel
theorem dX5_init_17 : decode cX5_init 17 = .ok (.putfield 15, 3) := by decide +kernel
theorem dX5_init_20 : decode cX5_init 20 = .ok (.aload_n 0, 1) := by decide +kernel
theorem dX5_init_21 : decode cX5_init 21 = .ok (.bipush 8, 2) := by decide +kernel
theorem dX5_init_23 : decode cX5_init 23 = .ok (.newarray .int, 2) := by decide +kernel
theorem dX5_init_25 : decode cX5_init 25 = .ok (.putfield 18, 3) := by decide +kernel
theorem dX5_init_28 : decode cX5_init 28 = .ok (.return_, 1) := by decide +kernel
theorem dX5_clear_0 : decode cX5_clear 0 = .ok (.aload_n 0, 1) := by decide +kernel
theorem dX5_clear_1 : decode cX5_clear 1 = .ok (.iconst 0, 1) := by decide +kernel
theorem dX5_clear_2 : decode cX5_clear 2 = .ok (.putfield 21, 3) := by decide +kernel
theorem dX5_clear_5 : decode cX5_clear 5 = .ok (.aload_n 0, 1) := by decide +kernel
theorem dX5_clear_6 : decode cX5_clear 6 = .ok (.bipush 100, 2) := by decide +kernel
theorem dX5_clear_8 : decode cX5_clear 8 = .ok (.putfield 25, 3) := by decide +kernel
theorem dX5_clear_11 : decode cX5_clear 11 = .ok (.aload_n 0, 1) := by decide +kernel
theorem dX5_clear_12 : decode cX5_clear 12 = .ok (.bipush 120, 2) := by decide +kernel
theorem dX5_clear_14 : decode cX5_clear 14 = .ok (.putfield 28, 3) := by decide +kernel
theorem dX5_clear_17 : decode cX5_clear 17 = .ok (.aload_n 0, 1) := by decide +kernel
theorem dX5_clear_18 : decode cX5_clear 18 = .ok (.bipush 6, 2) := by decide +kernel
theorem dX5_clear_20 : decode cX5_clear 20 = .ok (.putfield 31, 3) := by decide +kernel
theorem dX5_clear_23 : decode cX5_clear 23 = .ok (.aload_n 0, 1) := by decide +kernel
theorem dX5_clear_24 : decode cX5_clear 24 = .ok (.iconst 4, 1) := by decide +kernel
theorem dX5_clear_25 : decode cX5_clear 25 = .ok (.putfield 34, 3) := by decide +kernel
theorem dX5_clear_28 : decode cX5_clear 28 = .ok (.aload_n 0, 1) := by decide +kernel
theorem dX5_clear_29 : decode cX5_clear 29 = .ok (.iconst 0, 1) := by decide +kernel
theorem dX5_clear_30 : decode cX5_clear 30 = .ok (.putfield 37, 3) := by decide +kernel
theorem dX5_clear_33 : decode cX5_clear 33 = .ok (.return_, 1) := by decide +kernel
theorem dX5_copy_0 : decode cX5_copy 0 = .ok (.aload_n 1, 1) := by decide +kernel
theorem dX5_copy_1 : decode cX5_copy 1 = .ok (.getfield 9, 3) := by decide +kernel
theorem dX5_copy_4 : decode cX5_copy 4 = .ok (.iconst 0, 1) := by decide +kernel
theorem dX5_copy_5 : decode cX5_copy 5 = .ok (.aload_n 0, 1) := by decide +kernel
theorem dX5_copy_6 : decode cX5_copy 6 = .ok (.getfield 9, 3) := by decide +kernel
theorem dX5_copy_9 : decode cX5_copy 9 = .ok (.iconst 0, 1) := by decide +kernel
theorem dX5_copy_10 : decode cX5_copy 10 = .ok (.bipush 8, 2) := by decide +kernel
theorem dX5_copy_12 : decode cX5_copy 12 = .ok (.invokestatic 40, 3) := by decide +kernel
theorem dX5_copy_15 : decode cX5_copy 15 = .ok (.aload_n 1, 1) := by decide +kernel
theorem dX5_copy_16 : decode cX5_copy 16 = .ok (.getfield 15, 3) := by decide +kernel
theorem dX5_copy_19 : decode cX5_copy 19 = .ok (.iconst 0, 1) := by decide +kernel
theorem dX5_copy_20 : decode cX5_copy 20 = .ok (.aload_n 0, 1) := by decide +kernel
theorem dX5_copy_21 : decode cX5_copy 21 = .ok (.getfield 15, 3) := by decide +kernel
theorem dX5_copy_24 : decode cX5_copy 24 = .ok (.iconst 0, 1) := by decide +kernel
theorem dX5_copy_25 : decode cX5_copy 25 = .ok (.bipush 8, 2) := by decide +kernel
theorem dX5_copy_27 : decode cX5_copy 27 = .ok (.invokestatic 40, 3) := by decide +kernel
theorem dX5_copy_30 : decode cX5_copy 30 = .ok (.aload_n 1, 1) := by decide +kernel
theorem dX5_copy_31 : decode cX5_copy 31 = .ok (.getfield 18, 3) := by decide +kernel
theorem dX5_copy_34 : decode cX5_copy 34 = .ok (.iconst 0, 1) := by decide +kernel
theorem dX5_copy_35 : decode cX5_copy 35 = .ok (.aload_n 0, 1) := by decide +kernel
theorem dX5_copy_36 : decode cX5_copy 36 = .ok (.getfield 18, 3) := by decide +kernel
theorem dX5_copy_39 : decode cX5_copy 39 = .ok (.iconst 0, 1) := by decide +kernel
theorem dX5_copy_40 : decode cX5_copy 40 = .ok (.bipush 8, 2) := by decide +kernel
theorem dX5_copy_42 : decode cX5_copy 42 = .ok (.invokestatic 40, 3) := by decide +kernel
theorem dX5_copy_45 : decode cX5_copy 45 = .ok (.aload_n 0, 1) := by decide +kernel
theorem dX5_copy_46 : decode cX5_copy 46 = .ok (.aload_n 1, 1) := by decide +kernel
theorem dX5_copy_47 : decode cX5_copy 47 = .ok (.getfield 21, 3) := by decide +kernel
theorem dX5_copy_50 : decode cX5_copy 50 = .ok (.putfield 21, 3) := by decide +kernel
theorem dX5_copy_53 : decode cX5_copy 53 = .ok (.aload_n 0, 1) := by decide +kernel
theorem dX5_copy_54 : decode cX5_copy 54 = .ok (.aload_n 1, 1) := by decide +kernel
theorem dX5_copy_55 : decode cX5_copy 55 = .ok (.getfield 25, 3) := by decide +kernel
theorem dX5_copy_58 : decode cX5_copy 58 = .ok (.putfield 25, 3) := by decide +kernel
theorem dX5_copy_61 : decode cX5_copy 61 = .ok (.aload_n 0, 1) := by decide +kernel
theorem dX5_copy_62 : decode cX5_copy 62 = .ok (.aload_n 1, 1) := by decide +kernel
theorem dX5_copy_63 : decode cX5_copy 63 = .ok (.getfield 28, 3) := by decide +kernel
theorem dX5_copy_66 : decode cX5_copy 66 = .ok (.putfield 28, 3) := by decide +kernel
theorem dX5_copy_69 : decode cX5_copy 69 = .ok (.aload_n 0, 1) := by decide +kernel
theorem dX5_copy_70 : decode cX5_copy 70 = .ok (.aload_n 1, 1) := by decide +kernel
theorem dX5_copy_71 : decode cX5_copy 71 = .ok (.getfield 31, 3) := by decide +kernel
theorem dX5_copy_74 : decode cX5_copy 74 = .ok (.putfield 31, 3) := by decide +kernel
theorem dX5_copy_77 : decode cX5_copy 77 = .ok (.aload_n 0, 1) := by decide +kernel
theorem dX5_copy_78 : decode cX5_copy 78 = .ok (.aload_n 1, 1) := by decide +kernel
theorem dX5_copy_79 : decode cX5_copy 79 = .ok (.getfield 34, 3) := by decide +kernel
theorem dX5_copy_82 : decode cX5_copy 82 = .ok (.putfield 34, 3) := by decide +kernel
theorem dX5_copy_85 : decode cX5_copy 85 = .ok (.aload_n 0, 1) := by decide +kernel
theorem dX5_copy_86 : decode cX5_copy 86 = .ok (.aload_n 1, 1) := by decide +kernel
theorem dX5_copy_87 : decode cX5_copy 87 = .ok (.getfield 37, 3) := by decide +kernel
theorem dX5_copy_90 : decode cX5_copy 90 = .ok (.putfield 37, 3) := by decide +kernel
theorem dX5_copy_93 : decode cX5_copy 93 = .ok (.return_, 1) := by decide +kernel
set_option maxRecDepth 20000 in
theorem ggX5_take_X5_takeSlates : GoodIn wsX5_take wsX5_takeSlates := goodIn_r _ [5, 6, 7, 8, 9, 10, 11, 12, 13, 14, 15, 4, 16, 17, 18, 19, 20, 38, 39, 40, 41, 42, 43, 44, 45, 46] (by decide +kernel) (by decide +kernel)
set_option maxRecDepth 20000 in
theorem gX5_take_X5_takeSlates : GoodIn wsX5_take (wsV RX5 46 RX5 yX5_takeSlates wsX5_takeSlates) := goodIn_app (goodIn_of _ (by decide +kernel)) ggX5_take_X5_takeSlates
set_option maxRecDepth 20000 in
theorem ggX5_take_X5_takeRoof : GoodIn wsX5_take wsX5_takeRoof := goodIn_r _ [24, 25, 26, 10, 11, 12, 38, 39, 40, 41, 42, 43, 44, 45, 46] (by decide +kernel) (by decide +kernel)
set_option maxRecDepth 20000 in
theorem gX5_take_X5_takeRoof : GoodIn wsX5_take (wsV RX5 50 RX5 yX5_takeRoof wsX5_takeRoof) := goodIn_app (goodIn_of _ (by decide +kernel)) ggX5_take_X5_takeRoof
set_option maxRecDepth 20000 in
theorem ggX5_take_X5_takeLap : GoodIn wsX5_take wsX5_takeLap := goodIn_r _ [30, 31, 32, 10, 11, 12, 38, 39, 40, 41, 42, 43, 44, 45, 46] (by decide +kernel) (by decide +kernel)
set_option maxRecDepth 20000 in
theorem gX5_take_X5_takeLap : GoodIn wsX5_take (wsV RX5 54 RX5 yX5_takeLap wsX5_takeLap) := goodIn_app (goodIn_of _ (by decide +kernel)) ggX5_take_X5_takeLap
set_option maxRecDepth 20000 in
theorem ggX5_take_X5_takeHip : GoodIn wsX5_take wsX5_takeHip := goodIn_r _ [36, 37, 10, 11, 12, 38, 39, 40, 41, 42, 43, 44, 45, 46] (by decide +kernel) (by decide +kernel)
set_option maxRecDepth 20000 in
theorem gX5_take_X5_takeHip : GoodIn wsX5_take (wsV RX5 57 RX5 yX5_takeHip wsX5_takeHip) := goodIn_app (goodIn_of _ (by decide +kernel)) ggX5_take_X5_takeHip
theorem dX5_take_0 : decode cX5_take 0 = .ok (.iload_n 1, 1) := by decide +kernel
theorem dX5_take_1 : decode cX5_take 1 = .ok (.bipush 104, 2) := by decide +kernel
theorem dX5_take_3 : decode cX5_take 3 = .ok (.if_icmp .ne 12, 3) := by decide +kernel
theorem dX5_take_6 : decode cX5_take 6 = .ok (.aload_n 0, 1) := by decide +kernel
theorem dX5_take_7 : decode cX5_take 7 = .ok (.iload_n 2, 1) := by decide +kernel
theorem dX5_take_8 : decode cX5_take 8 = .ok (.iload_n 3, 1) := by decide +kernel
theorem dX5_take_9 : decode cX5_take 9 = .ok (.iload 4, 2) := by decide +kernel
theorem dX5_take_11 : decode cX5_take 11 = .ok (.invokevirtual 46, 3) := by decide +kernel
theorem dX5_take_14 : decode cX5_take 14 = .ok (.ireturn, 1) := by decide +kernel
theorem dX5_take_15 : decode cX5_take 15 = .ok (.iload_n 1, 1) := by decide +kernel
theorem dX5_take_16 : decode cX5_take 16 = .ok (.bipush 114, 2) := by decide +kernel
theorem dX5_take_18 : decode cX5_take 18 = .ok (.if_icmp .ne 10, 3) := by decide +kernel
theorem dX5_take_21 : decode cX5_take 21 = .ok (.aload_n 0, 1) := by decide +kernel
theorem dX5_take_22 : decode cX5_take 22 = .ok (.iload_n 2, 1) := by decide +kernel
theorem dX5_take_23 : decode cX5_take 23 = .ok (.iload_n 3, 1) := by decide +kernel
theorem dX5_take_24 : decode cX5_take 24 = .ok (.invokevirtual 50, 3) := by decide +kernel
theorem dX5_take_27 : decode cX5_take 27 = .ok (.ireturn, 1) := by decide +kernel
theorem dX5_take_28 : decode cX5_take 28 = .ok (.iload_n 1, 1) := by decide +kernel
theorem dX5_take_29 : decode cX5_take 29 = .ok (.bipush 112, 2) := by decide +kernel
theorem dX5_take_31 : decode cX5_take 31 = .ok (.if_icmp .ne 10, 3) := by decide +kernel
theorem dX5_take_34 : decode cX5_take 34 = .ok (.aload_n 0, 1) := by decide +kernel
theorem dX5_take_35 : decode cX5_take 35 = .ok (.iload_n 2, 1) := by decide +kernel
theorem dX5_take_36 : decode cX5_take 36 = .ok (.iload_n 3, 1) := by decide +kernel
theorem dX5_take_37 : decode cX5_take 37 = .ok (.invokevirtual 54, 3) := by decide +kernel
theorem dX5_take_40 : decode cX5_take 40 = .ok (.ireturn, 1) := by decide +kernel
theorem dX5_take_41 : decode cX5_take 41 = .ok (.iload_n 1, 1) := by decide +kernel
theorem dX5_take_42 : decode cX5_take 42 = .ok (.bipush 105, 2) := by decide +kernel
theorem dX5_take_44 : decode cX5_take 44 = .ok (.if_icmp .ne 15, 3) := by decide +kernel
theorem dX5_take_47 : decode cX5_take 47 = .ok (.aload_n 0, 1) := by decide +kernel
theorem dX5_take_48 : decode cX5_take 48 = .ok (.iload_n 2, 1) := by decide +kernel
theorem dX5_take_49 : decode cX5_take 49 = .ok (.invokevirtual 57, 3) := by decide +kernel
theorem dX5_take_52 : decode cX5_take 52 = .ok (.ifCond .eq 7, 3) := by decide +kernel
theorem dX5_take_55 : decode cX5_take 55 = .ok (.iconst 1, 1) := by decide +kernel
theorem dX5_take_56 : decode cX5_take 56 = .ok (.goto 4, 3) := by decide +kernel
theorem dX5_take_59 : decode cX5_take 59 = .ok (.iconst 0, 1) := by decide +kernel
theorem dX5_take_60 : decode cX5_take 60 = .ok (.ireturn, 1) := by decide +kernel
set_option maxRecDepth 20000 in
theorem ggX5_takeRoof_X8_isWithin : GoodIn wsX5_takeRoof wsX8_isWithin := goodIn_r _ [5] (by decide +kernel) (by decide +kernel)
set_option maxRecDepth 20000 in
theorem gX5_takeRoof_X8_isWithin_n61 : GoodIn wsX5_takeRoof (wsX8_isWithin) := ggX5_takeRoof_X8_isWithin
theorem dX5_takeRoof_0 : decode cX5_takeRoof 0 = .ok (.aload_n 0, 1) := by decide +kernel
theorem dX5_takeRoof_1 : decode cX5_takeRoof 1 = .ok (.iload_n 1, 1) := by decide +kernel
theorem dX5_takeRoof_2 : decode cX5_takeRoof 2 = .ok (.putfield 25, 3) := by decide +kernel
theorem dX5_takeRoof_5 : decode cX5_takeRoof 5 = .ok (.aload_n 0, 1) := by decide +kernel
theorem dX5_takeRoof_6 : decode cX5_takeRoof 6 = .ok (.iload_n 2, 1) := by decide +kernel
theorem dX5_takeRoof_7 : decode cX5_takeRoof 7 = .ok (.putfield 28, 3) := by decide +kernel
theorem dX5_takeRoof_10 : decode cX5_takeRoof 10 = .ok (.aload_n 0, 1) := by decide +kernel
theorem dX5_takeRoof_11 : decode cX5_takeRoof 11 = .ok (.getfield 25, 3) := by decide +kernel
theorem dX5_takeRoof_14 : decode cX5_takeRoof 14 = .ok (.bipush 20, 2) := by decide +kernel
theorem dX5_takeRoof_16 : decode cX5_takeRoof 16 = .ok (.sipush 400, 3) := by decide +kernel
theorem dX5_takeRoof_19 : decode cX5_takeRoof 19 = .ok (.invokestatic 61, 3) := by decide +kernel
theorem dX5_takeRoof_22 : decode cX5_takeRoof 22 = .ok (.ifCond .eq 22, 3) := by decide +kernel
theorem dX5_takeRoof_25 : decode cX5_takeRoof 25 = .ok (.aload_n 0, 1) := by decide +kernel
theorem dX5_takeRoof_26 : decode cX5_takeRoof 26 = .ok (.getfield 28, 3) := by decide +kernel
theorem dX5_takeRoof_29 : decode cX5_takeRoof 29 = .ok (.bipush 40, 2) := by decide +kernel
theorem dX5_takeRoof_31 : decode cX5_takeRoof 31 = .ok (.sipush 240, 3) := by decide +kernel
theorem dX5_takeRoof_34 : decode cX5_takeRoof 34 = .ok (.invokestatic 61, 3) := by decide +kernel
theorem dX5_takeRoof_37 : decode cX5_takeRoof 37 = .ok (.ifCond .eq 7, 3) := by decide +kernel
theorem dX5_takeRoof_40 : decode cX5_takeRoof 40 = .ok (.iconst 1, 1) := by decide +kernel
theorem dX5_takeRoof_41 : decode cX5_takeRoof 41 = .ok (.goto 4, 3) := by decide +kernel
theorem dX5_takeRoof_44 : decode cX5_takeRoof 44 = .ok (.iconst 0, 1) := by decide +kernel
theorem dX5_takeRoof_45 : decode cX5_takeRoof 45 = .ok (.ireturn, 1) := by decide +kernel
set_option maxRecDepth 20000 in
theorem ggX5_takeLap_X8_isWithin : GoodIn wsX5_takeLap wsX8_isWithin := goodIn_r _ [5] (by decide +kernel) (by decide +kernel)
set_option maxRecDepth 20000 in
theorem gX5_takeLap_X8_isWithin_n61 : GoodIn wsX5_takeLap (wsX8_isWithin) := ggX5_takeLap_X8_isWithin
theorem dX5_takeLap_0 : decode cX5_takeLap 0 = .ok (.aload_n 0, 1) := by decide +kernel
theorem dX5_takeLap_1 : decode cX5_takeLap 1 = .ok (.iload_n 1, 1) := by decide +kernel
theorem dX5_takeLap_2 : decode cX5_takeLap 2 = .ok (.putfield 31, 3) := by decide +kernel
theorem dX5_takeLap_5 : decode cX5_takeLap 5 = .ok (.aload_n 0, 1) := by decide +kernel
theorem dX5_takeLap_6 : decode cX5_takeLap 6 = .ok (.iload_n 2, 1) := by decide +kernel
theorem dX5_takeLap_7 : decode cX5_takeLap 7 = .ok (.putfield 34, 3) := by decide +kernel
theorem dX5_takeLap_10 : decode cX5_takeLap 10 = .ok (.aload_n 0, 1) := by decide +kernel
theorem dX5_takeLap_11 : decode cX5_takeLap 11 = .ok (.getfield 31, 3) := by decide +kernel
theorem dX5_takeLap_14 : decode cX5_takeLap 14 = .ok (.iconst 1, 1) := by decide +kernel
theorem dX5_takeLap_15 : decode cX5_takeLap 15 = .ok (.bipush 10, 2) := by decide +kernel
theorem dX5_takeLap_17 : decode cX5_takeLap 17 = .ok (.invokestatic 61, 3) := by decide +kernel
theorem dX5_takeLap_20 : decode cX5_takeLap 20 = .ok (.ifCond .eq 20, 3) := by decide +kernel
theorem dX5_takeLap_23 : decode cX5_takeLap 23 = .ok (.aload_n 0, 1) := by decide +kernel
theorem dX5_takeLap_24 : decode cX5_takeLap 24 = .ok (.getfield 34, 3) := by decide +kernel
theorem dX5_takeLap_27 : decode cX5_takeLap 27 = .ok (.iconst 1, 1) := by decide +kernel
theorem dX5_takeLap_28 : decode cX5_takeLap 28 = .ok (.bipush 9, 2) := by decide +kernel
theorem dX5_takeLap_30 : decode cX5_takeLap 30 = .ok (.invokestatic 61, 3) := by decide +kernel
theorem dX5_takeLap_33 : decode cX5_takeLap 33 = .ok (.ifCond .eq 7, 3) := by decide +kernel
theorem dX5_takeLap_36 : decode cX5_takeLap 36 = .ok (.iconst 1, 1) := by decide +kernel
theorem dX5_takeLap_37 : decode cX5_takeLap 37 = .ok (.goto 4, 3) := by decide +kernel
theorem dX5_takeLap_40 : decode cX5_takeLap 40 = .ok (.iconst 0, 1) := by decide +kernel
theorem dX5_takeLap_41 : decode cX5_takeLap 41 = .ok (.ireturn, 1) := by decide +kernel
set_option maxRecDepth 20000 in
theorem ggX5_takeHip_X8_isWithin : GoodIn wsX5_takeHip wsX8_isWithin := goodIn_r _ [4] (by decide +kernel) (by decide +kernel)
set_option maxRecDepth 20000 in
theorem gX5_takeHip_X8_isWithin_n61 : GoodIn wsX5_takeHip (wsX8_isWithin) := ggX5_takeHip_X8_isWithin
theorem dX5_takeHip_0 : decode cX5_takeHip 0 = .ok (.aload_n 0, 1) := by decide +kernel
theorem dX5_takeHip_1 : decode cX5_takeHip 1 = .ok (.iload_n 1, 1) := by decide +kernel
theorem dX5_takeHip_2 : decode cX5_takeHip 2 = .ok (.putfield 37, 3) := by decide +kernel
theorem dX5_takeHip_5 : decode cX5_takeHip 5 = .ok (.aload_n 0, 1) := by decide +kernel
theorem dX5_takeHip_6 : decode cX5_takeHip 6 = .ok (.getfield 37, 3) := by decide +kernel
theorem dX5_takeHip_9 : decode cX5_takeHip 9 = .ok (.iconst 0, 1) := by decide +kernel
theorem dX5_takeHip_10 : decode cX5_takeHip 10 = .ok (.bipush 9, 2) := by decide +kernel
theorem dX5_takeHip_12 : decode cX5_takeHip 12 = .ok (.invokestatic 61, 3) := by decide +kernel
theorem dX5_takeHip_15 : decode cX5_takeHip 15 = .ok (.ireturn, 1) := by decide +kernel
set_option maxRecDepth 20000 in
theorem ggX5_takeSlates_X8_isWithin : GoodIn wsX5_takeSlates wsX8_isWithin := goodIn_r _ [7] (by decide +kernel) (by decide +kernel)
set_option maxRecDepth 20000 in
theorem gX5_takeSlates_X8_isWithin_n61 : GoodIn wsX5_takeSlates (wsX8_isWithin) := ggX5_takeSlates_X8_isWithin
set_option maxRecDepth 20000 in
theorem ggX5_takeSlates_X5_placeFor : GoodIn wsX5_takeSlates wsX5_placeFor := goodIn_r _ [12, 1, 2, 3, 17, 18, 19, 20, 21, 22, 23, 24, 25] (by decide +kernel) (by decide +kernel)
set_option maxRecDepth 20000 in
theorem gX5_takeSlates_X5_placeFor : GoodIn wsX5_takeSlates (wsV RX5 64 RX5 yX5_placeFor wsX5_placeFor) := goodIn_app (goodIn_of _ (by decide +kernel)) ggX5_takeSlates_X5_placeFor
set_option maxRecDepth 20000 in
theorem ggX5_takeSlates_X5_insertHeap : GoodIn wsX5_takeSlates wsX5_insertHeap := goodIn_r _ [16, 1, 2, 3, 4, 17, 18, 19, 20, 21, 22, 23, 24, 25] (by decide +kernel) (by decide +kernel)
set_option maxRecDepth 20000 in
theorem gX5_takeSlates_X5_insertHeap : GoodIn wsX5_takeSlates (wsV RX5 68 RX5 yX5_insertHeap wsX5_insertHeap) := goodIn_app (goodIn_of _ (by decide +kernel)) ggX5_takeSlates_X5_insertHeap
theorem dX5_takeSlates_0 : decode cX5_takeSlates 0 = .ok (.iload_n 1, 1) := by decide +kernel
theorem dX5_takeSlates_1 : decode cX5_takeSlates 1 = .ok (.bipush 20, 2) := by decide +kernel
theorem dX5_takeSlates_3 : decode cX5_takeSlates 3 = .ok (.bipush 60, 2) := by decide +kernel
theorem dX5_takeSlates_5 : decode cX5_takeSlates 5 = .ok (.invokestatic 61, 3) := by decide +kernel
theorem dX5_takeSlates_8 : decode cX5_takeSlates 8 = .ok (.ifCond .eq 24, 3) := by decide +kernel
theorem dX5_takeSlates_11 : decode cX5_takeSlates 11 = .ok (.iload_n 2, 1) := by decide +kernel
theorem dX5_takeSlates_12 : decode cX5_takeSlates 12 = .ok (.bipush 10, 2) := by decide +kernel
theorem dX5_takeSlates_14 : decode cX5_takeSlates 14 = .ok (.bipush 60, 2) := by decide +kernel
theorem dX5_takeSlates_16 : decode cX5_takeSlates 16 = .ok (.invokestatic 61, 3) := by decide +kernel
theorem dX5_takeSlates_19 : decode cX5_takeSlates 19 = .ok (.ifCond .eq 13, 3) := by decide +kernel
theorem dX5_takeSlates_22 : decode cX5_takeSlates 22 = .ok (.iload_n 3, 1) := by decide +kernel
theorem dX5_takeSlates_23 : decode cX5_takeSlates 23 = .ok (.iconst 1, 1) := by decide +kernel
theorem dX5_takeSlates_24 : decode cX5_takeSlates 24 = .ok (.bipush 99, 2) := by decide +kernel
theorem dX5_takeSlates_26 : decode cX5_takeSlates 26 = .ok (.invokestatic 61, 3) := by decide +kernel
theorem dX5_takeSlates_29 : decode cX5_takeSlates 29 = .ok (.ifCond .ne 5, 3) := by decide +kernel
theorem dX5_takeSlates_32 : decode cX5_takeSlates 32 = .ok (.iconst 0, 1) := by decide +kernel
theorem dX5_takeSlates_33 : decode cX5_takeSlates 33 = .ok (.ireturn, 1) := by decide +kernel
theorem dX5_takeSlates_34 : decode cX5_takeSlates 34 = .ok (.aload_n 0, 1) := by decide +kernel
theorem dX5_takeSlates_35 : decode cX5_takeSlates 35 = .ok (.iload_n 1, 1) := by decide +kernel
theorem dX5_takeSlates_36 : decode cX5_takeSlates 36 = .ok (.iload_n 2, 1) := by decide +kernel
theorem dX5_takeSlates_37 : decode cX5_takeSlates 37 = .ok (.invokevirtual 64, 3) := by decide +kernel
theorem dX5_takeSlates_40 : decode cX5_takeSlates 40 = .ok (.istore 4, 2) := by decide +kernel
theorem dX5_takeSlates_42 : decode cX5_takeSlates 42 = .ok (.iload 4, 2) := by decide +kernel
theorem dX5_takeSlates_44 : decode cX5_takeSlates 44 = .ok (.aload_n 0, 1) := by decide +kernel
theorem dX5_takeSlates_45 : decode cX5_takeSlates 45 = .ok (.getfield 21, 3) := by decide +kernel
theorem dX5_takeSlates_48 : decode cX5_takeSlates 48 = .ok (.if_icmp .ge 55, 3) := by decide +kernel
theorem dX5_takeSlates_51 : decode cX5_takeSlates 51 = .ok (.aload_n 0, 1) := by decide +kernel
theorem dX5_takeSlates_52 : decode cX5_takeSlates 52 = .ok (.getfield 9, 3) := by decide +kernel
theorem dX5_takeSlates_55 : decode cX5_takeSlates 55 = .ok (.iload 4, 2) := by decide +kernel
theorem dX5_takeSlates_57 : decode cX5_takeSlates 57 = .ok (.iaload, 1) := by decide +kernel
theorem dX5_takeSlates_58 : decode cX5_takeSlates 58 = .ok (.iload_n 1, 1) := by decide +kernel
theorem dX5_takeSlates_59 : decode cX5_takeSlates 59 = .ok (.if_icmp .ne 44, 3) := by decide +kernel
theorem dX5_takeSlates_62 : decode cX5_takeSlates 62 = .ok (.aload_n 0, 1) := by decide +kernel
theorem dX5_takeSlates_63 : decode cX5_takeSlates 63 = .ok (.getfield 15, 3) := by decide +kernel
theorem dX5_takeSlates_66 : decode cX5_takeSlates 66 = .ok (.iload 4, 2) := by decide +kernel
theorem dX5_takeSlates_68 : decode cX5_takeSlates 68 = .ok (.iaload, 1) := by decide +kernel
theorem dX5_takeSlates_69 : decode cX5_takeSlates 69 = .ok (.iload_n 2, 1) := by decide +kernel
theorem dX5_takeSlates_70 : decode cX5_takeSlates 70 = .ok (.if_icmp .ne 33, 3) := by decide +kernel
theorem dX5_takeSlates_73 : decode cX5_takeSlates 73 = .ok (.aload_n 0, 1) := by decide +kernel
theorem dX5_takeSlates_74 : decode cX5_takeSlates 74 = .ok (.getfield 18, 3) := by decide +kernel
theorem dX5_takeSlates_77 : decode cX5_takeSlates 77 = .ok (.iload 4, 2) := by decide +kernel
theorem dX5_takeSlates_79 : decode cX5_takeSlates 79 = .ok (.dup2, 1) := by decide +kernel
theorem dX5_takeSlates_80 : decode cX5_takeSlates 80 = .ok (.iaload, 1) := by decide +kernel
theorem dX5_takeSlates_81 : decode cX5_takeSlates 81 = .ok (.iload_n 3, 1) := by decide +kernel
theorem dX5_takeSlates_82 : decode cX5_takeSlates 82 = .ok (.iadd, 1) := by decide +kernel
theorem dX5_takeSlates_83 : decode cX5_takeSlates 83 = .ok (.iastore, 1) := by decide +kernel
theorem dX5_takeSlates_84 : decode cX5_takeSlates 84 = .ok (.aload_n 0, 1) := by decide +kernel
theorem dX5_takeSlates_85 : decode cX5_takeSlates 85 = .ok (.getfield 18, 3) := by decide +kernel
theorem dX5_takeSlates_88 : decode cX5_takeSlates 88 = .ok (.iload 4, 2) := by decide +kernel
theorem dX5_takeSlates_90 : decode cX5_takeSlates 90 = .ok (.iaload, 1) := by decide +kernel
theorem dX5_takeSlates_91 : decode cX5_takeSlates 91 = .ok (.sipush 999, 3) := by decide +kernel
theorem dX5_takeSlates_94 : decode cX5_takeSlates 94 = .ok (.if_icmp .gt 7, 3) := by decide +kernel
theorem dX5_takeSlates_97 : decode cX5_takeSlates 97 = .ok (.iconst 1, 1) := by decide +kernel
theorem dX5_takeSlates_98 : decode cX5_takeSlates 98 = .ok (.goto 4, 3) := by decide +kernel
theorem dX5_takeSlates_101 : decode cX5_takeSlates 101 = .ok (.iconst 0, 1) := by decide +kernel
theorem dX5_takeSlates_102 : decode cX5_takeSlates 102 = .ok (.ireturn, 1) := by decide +kernel
theorem dX5_takeSlates_103 : decode cX5_takeSlates 103 = .ok (.aload_n 0, 1) := by decide +kernel
theorem dX5_takeSlates_104 : decode cX5_takeSlates 104 = .ok (.iload 4, 2) := by decide +kernel
theorem dX5_takeSlates_106 : decode cX5_takeSlates 106 = .ok (.iload_n 1, 1) := by decide +kernel
theorem dX5_takeSlates_107 : decode cX5_takeSlates 107 = .ok (.iload_n 2, 1) := by decide +kernel
theorem dX5_takeSlates_108 : decode cX5_takeSlates 108 = .ok (.iload_n 3, 1) := by decide +kernel
theorem dX5_takeSlates_109 : decode cX5_takeSlates 109 = .ok (.invokevirtual 68, 3) := by decide +kernel
theorem dX5_takeSlates_112 : decode cX5_takeSlates 112 = .ok (.ireturn, 1) := by decide +kernel
theorem dX5_placeFor_0 : decode cX5_placeFor 0 = .ok (.iconst 0, 1) := by decide +kernel
theorem dX5_placeFor_1 : decode cX5_placeFor 1 = .ok (.istore_n 3, 1) := by decide +kernel
theorem dX5_placeFor_2 : decode cX5_placeFor 2 = .ok (.iload_n 3, 1) := by decide +kernel
theorem dX5_placeFor_3 : decode cX5_placeFor 3 = .ok (.aload_n 0, 1) := by decide +kernel
theorem dX5_placeFor_4 : decode cX5_placeFor 4 = .ok (.getfield 21, 3) := by decide +kernel
theorem dX5_placeFor_7 : decode cX5_placeFor 7 = .ok (.if_icmp .ge 39, 3) := by decide +kernel
theorem dX5_placeFor_10 : decode cX5_placeFor 10 = .ok (.aload_n 0, 1) := by decide +kernel
theorem dX5_placeFor_11 : decode cX5_placeFor 11 = .ok (.getfield 9, 3) := by decide +kernel
theorem dX5_placeFor_14 : decode cX5_placeFor 14 = .ok (.iload_n 3, 1) := by decide +kernel
theorem dX5_placeFor_15 : decode cX5_placeFor 15 = .ok (.iaload, 1) := by decide +kernel
theorem dX5_placeFor_16 : decode cX5_placeFor 16 = .ok (.iload_n 1, 1) := by decide +kernel
theorem dX5_placeFor_17 : decode cX5_placeFor 17 = .ok (.if_icmp .gt 23, 3) := by decide +kernel
theorem dX5_placeFor_20 : decode cX5_placeFor 20 = .ok (.aload_n 0, 1) := by decide +kernel
theorem dX5_placeFor_21 : decode cX5_placeFor 21 = .ok (.getfield 9, 3) := by decide +kernel
theorem dX5_placeFor_24 : decode cX5_placeFor 24 = .ok (.iload_n 3, 1) := by decide +kernel
theorem dX5_placeFor_25 : decode cX5_placeFor 25 = .ok (.iaload, 1) := by decide +kernel
theorem dX5_placeFor_26 : decode cX5_placeFor 26 = .ok (.iload_n 1, 1) := by decide +kernel
theorem dX5_placeFor_27 : decode cX5_placeFor 27 = .ok (.if_icmp .ne 19, 3) := by decide +kernel
theorem dX5_placeFor_30 : decode cX5_placeFor 30 = .ok (.aload_n 0, 1) := by decide +kernel
theorem dX5_placeFor_31 : decode cX5_placeFor 31 = .ok (.getfield 15, 3) := by decide +kernel
theorem dX5_placeFor_34 : decode cX5_placeFor 34 = .ok (.iload_n 3, 1) := by decide +kernel
theorem dX5_placeFor_35 : decode cX5_placeFor 35 = .ok (.iaload, 1) := by decide +kernel
theorem dX5_placeFor_36 : decode cX5_placeFor 36 = .ok (.iload_n 2, 1) := by decide +kernel
theorem dX5_placeFor_37 : decode cX5_placeFor 37 = .ok (.if_icmp .le 9, 3) := by decide +kernel
theorem dX5_placeFor_40 : decode cX5_placeFor 40 = .ok (.iinc 3 1, 3) := by decide +kernel
theorem dX5_placeFor_43 : decode cX5_placeFor 43 = .ok (.goto (-41), 3) := by decide +kernel
theorem dX5_placeFor_46 : decode cX5_placeFor 46 = .ok (.iload_n 3, 1) := by decide +kernel
theorem dX5_placeFor_47 : decode cX5_placeFor 47 = .ok (.ireturn, 1) := by decide +kernel
theorem dX5_insertHeap_0 : decode cX5_insertHeap 0 = .ok (.aload_n 0, 1) := by decide +kernel
theorem dX5_insertHeap_1 : decode cX5_insertHeap 1 = .ok (.getfield 21, 3) := by decide +kernel
theorem dX5_insertHeap_4 : decode cX5_insertHeap 4 = .ok (.bipush 8, 2) := by decide +kernel
theorem dX5_insertHeap_6 : decode cX5_insertHeap 6 = .ok (.if_icmp .lt 5, 3) := by decide +kernel
theorem dX5_insertHeap_9 : decode cX5_insertHeap 9 = .ok (.iconst 0, 1) := by decide +kernel
theorem dX5_insertHeap_10 : decode cX5_insertHeap 10 = .ok (.ireturn, 1) := by decide +kernel
theorem dX5_insertHeap_11 : decode cX5_insertHeap 11 = .ok (.aload_n 0, 1) := by decide +kernel
theorem dX5_insertHeap_12 : decode cX5_insertHeap 12 = .ok (.getfield 21, 3) := by decide +kernel
theorem dX5_insertHeap_15 : decode cX5_insertHeap 15 = .ok (.istore 5, 2) := by decide +kernel
theorem dX5_insertHeap_17 : decode cX5_insertHeap 17 = .ok (.iload 5, 2) := by decide +kernel
theorem dX5_insertHeap_19 : decode cX5_insertHeap 19 = .ok (.iload_n 1, 1) := by decide +kernel
theorem dX5_insertHeap_20 : decode cX5_insertHeap 20 = .ok (.if_icmp .le 57, 3) := by decide +kernel
theorem dX5_insertHeap_23 : decode cX5_insertHeap 23 = .ok (.aload_n 0, 1) := by decide +kernel
theorem dX5_insertHeap_24 : decode cX5_insertHeap 24 = .ok (.getfield 9, 3) := by decide +kernel
theorem dX5_insertHeap_27 : decode cX5_insertHeap 27 = .ok (.iload 5, 2) := by decide +kernel
theorem dX5_insertHeap_29 : decode cX5_insertHeap 29 = .ok (.aload_n 0, 1) := by decide +kernel
theorem dX5_insertHeap_30 : decode cX5_insertHeap 30 = .ok (.getfield 9, 3) := by decide +kernel
theorem dX5_insertHeap_33 : decode cX5_insertHeap 33 = .ok (.iload 5, 2) := by decide +kernel
theorem dX5_insertHeap_35 : decode cX5_insertHeap 35 = .ok (.iconst 1, 1) := by decide +kernel
theorem dX5_insertHeap_36 : decode cX5_insertHeap 36 = .ok (.isub, 1) := by decide +kernel
theorem dX5_insertHeap_37 : decode cX5_insertHeap 37 = .ok (.iaload, 1) := by decide +kernel
theorem dX5_insertHeap_38 : decode cX5_insertHeap 38 = .ok (.iastore, 1) := by decide +kernel
theorem dX5_insertHeap_39 : decode cX5_insertHeap 39 = .ok (.aload_n 0, 1) := by decide +kernel
theorem dX5_insertHeap_40 : decode cX5_insertHeap 40 = .ok (.getfield 15, 3) := by decide +kernel
theorem dX5_insertHeap_43 : decode cX5_insertHeap 43 = .ok (.iload 5, 2) := by decide +kernel
theorem dX5_insertHeap_45 : decode cX5_insertHeap 45 = .ok (.aload_n 0, 1) := by decide +kernel
theorem dX5_insertHeap_46 : decode cX5_insertHeap 46 = .ok (.getfield 15, 3) := by decide +kernel
theorem dX5_insertHeap_49 : decode cX5_insertHeap 49 = .ok (.iload 5, 2) := by decide +kernel
theorem dX5_insertHeap_51 : decode cX5_insertHeap 51 = .ok (.iconst 1, 1) := by decide +kernel
theorem dX5_insertHeap_52 : decode cX5_insertHeap 52 = .ok (.isub, 1) := by decide +kernel
theorem dX5_insertHeap_53 : decode cX5_insertHeap 53 = .ok (.iaload, 1) := by decide +kernel
theorem dX5_insertHeap_54 : decode cX5_insertHeap 54 = .ok (.iastore, 1) := by decide +kernel
theorem dX5_insertHeap_55 : decode cX5_insertHeap 55 = .ok (.aload_n 0, 1) := by decide +kernel
theorem dX5_insertHeap_56 : decode cX5_insertHeap 56 = .ok (.getfield 18, 3) := by decide +kernel
theorem dX5_insertHeap_59 : decode cX5_insertHeap 59 = .ok (.iload 5, 2) := by decide +kernel
theorem dX5_insertHeap_61 : decode cX5_insertHeap 61 = .ok (.aload_n 0, 1) := by decide +kernel
theorem dX5_insertHeap_62 : decode cX5_insertHeap 62 = .ok (.getfield 18, 3) := by decide +kernel
theorem dX5_insertHeap_65 : decode cX5_insertHeap 65 = .ok (.iload 5, 2) := by decide +kernel
theorem dX5_insertHeap_67 : decode cX5_insertHeap 67 = .ok (.iconst 1, 1) := by decide +kernel
theorem dX5_insertHeap_68 : decode cX5_insertHeap 68 = .ok (.isub, 1) := by decide +kernel
theorem dX5_insertHeap_69 : decode cX5_insertHeap 69 = .ok (.iaload, 1) := by decide +kernel
theorem dX5_insertHeap_70 : decode cX5_insertHeap 70 = .ok (.iastore, 1) := by decide +kernel
theorem dX5_insertHeap_71 : decode cX5_insertHeap 71 = .ok (.iinc 5 (-1), 3) := by decide +kernel
theorem dX5_insertHeap_74 : decode cX5_insertHeap 74 = .ok (.goto (-57), 3) := by decide +kernel
theorem dX5_insertHeap_77 : decode cX5_insertHeap 77 = .ok (.aload_n 0, 1) := by decide +kernel
theorem dX5_insertHeap_78 : decode cX5_insertHeap 78 = .ok (.getfield 9, 3) := by decide +kernel
theorem dX5_insertHeap_81 : decode cX5_insertHeap 81 = .ok (.iload_n 1, 1) := by decide +kernel
theorem dX5_insertHeap_82 : decode cX5_insertHeap 82 = .ok (.iload_n 2, 1) := by decide +kernel
theorem dX5_insertHeap_83 : decode cX5_insertHeap 83 = .ok (.iastore, 1) := by decide +kernel
theorem dX5_insertHeap_84 : decode cX5_insertHeap 84 = .ok (.aload_n 0, 1) := by decide +kernel
theorem dX5_insertHeap_85 : decode cX5_insertHeap 85 = .ok (.getfield 15, 3) := by decide +kernel
theorem dX5_insertHeap_88 : decode cX5_insertHeap 88 = .ok (.iload_n 1, 1) := by decide +kernel
theorem dX5_insertHeap_89 : decode cX5_insertHeap 89 = .ok (.iload_n 3, 1) := by decide +kernel
theorem dX5_insertHeap_90 : decode cX5_insertHeap 90 = .ok (.iastore, 1) := by decide +kernel
theorem dX5_insertHeap_91 : decode cX5_insertHeap 91 = .ok (.aload_n 0, 1) := by decide +kernel
theorem dX5_insertHeap_92 : decode cX5_insertHeap 92 = .ok (.getfield 18, 3) := by decide +kernel
theorem dX5_insertHeap_95 : decode cX5_insertHeap 95 = .ok (.iload_n 1, 1) := by decide +kernel
theorem dX5_insertHeap_96 : decode cX5_insertHeap 96 = .ok (.iload 4, 2) := by decide +kernel
theorem dX5_insertHeap_98 : decode cX5_insertHeap 98 = .ok (.iastore, 1) := by decide +kernel
theorem dX5_insertHeap_99 : decode cX5_insertHeap 99 = .ok (.aload_n 0, 1) := by decide +kernel
theorem dX5_insertHeap_100 : decode cX5_insertHeap 100 = .ok (.dup, 1) := by decide +kernel
theorem dX5_insertHeap_101 : decode cX5_insertHeap 101 = .ok (.getfield 21, 3) := by decide +kernel
theorem dX5_insertHeap_104 : decode cX5_insertHeap 104 = .ok (.iconst 1, 1) := by decide +kernel
theorem dX5_insertHeap_105 : decode cX5_insertHeap 105 = .ok (.iadd, 1) := by decide +kernel
theorem dX5_insertHeap_106 : decode cX5_insertHeap 106 = .ok (.putfield 21, 3) := by decide +kernel
theorem dX5_insertHeap_109 : decode cX5_insertHeap 109 = .ok (.iconst 1, 1) := by decide +kernel
theorem dX5_insertHeap_110 : decode cX5_insertHeap 110 = .ok (.ireturn, 1) := by decide +kernel
theorem dX5_gaugeOf_0 : decode cX5_gaugeOf 0 = .ok (.iload_n 1, 1) := by decide +kernel
theorem dX5_gaugeOf_1 : decode cX5_gaugeOf 1 = .ok (.aload_n 0, 1) := by decide +kernel
theorem dX5_gaugeOf_2 : decode cX5_gaugeOf 2 = .ok (.getfield 31, 3) := by decide +kernel
theorem dX5_gaugeOf_5 : decode cX5_gaugeOf 5 = .ok (.isub, 1) := by decide +kernel
theorem dX5_gaugeOf_6 : decode cX5_gaugeOf 6 = .ok (.iconst 2, 1) := by decide +kernel
theorem dX5_gaugeOf_7 : decode cX5_gaugeOf 7 = .ok (.idiv, 1) := by decide +kernel
theorem dX5_gaugeOf_8 : decode cX5_gaugeOf 8 = .ok (.ireturn, 1) := by decide +kernel
theorem dX5_roomAt_0 : decode cX5_roomAt 0 = .ok (.bipush 20, 2) := by decide +kernel
theorem dX5_roomAt_2 : decode cX5_roomAt 2 = .ok (.aload_n 0, 1) := by decide +kernel
theorem dX5_roomAt_3 : decode cX5_roomAt 3 = .ok (.getfield 28, 3) := by decide +kernel
theorem dX5_roomAt_6 : decode cX5_roomAt 6 = .ok (.aload_n 0, 1) := by decide +kernel
theorem dX5_roomAt_7 : decode cX5_roomAt 7 = .ok (.getfield 37, 3) := by decide +kernel
theorem dX5_roomAt_10 : decode cX5_roomAt 10 = .ok (.iload_n 1, 1) := by decide +kernel
theorem dX5_roomAt_11 : decode cX5_roomAt 11 = .ok (.imul, 1) := by decide +kernel
theorem dX5_roomAt_12 : decode cX5_roomAt 12 = .ok (.bipush 10, 2) := by decide +kernel
theorem dX5_roomAt_14 : decode cX5_roomAt 14 = .ok (.idiv, 1) := by decide +kernel
theorem dX5_roomAt_15 : decode cX5_roomAt 15 = .ok (.isub, 1) := by decide +kernel
theorem dX5_roomAt_16 : decode cX5_roomAt 16 = .ok (.invokestatic 72, 3) := by decide +kernel
theorem dX5_roomAt_19 : decode cX5_roomAt 19 = .ok (.ireturn, 1) := by decide +kernel
set_option maxRecDepth 20000 in
theorem ggX5_isReadyBy_X3_head : GoodIn wsX5_isReadyBy wsX3_head := goodIn_r _ [6, 7, 8, 18, 19, 20, 21, 22, 23, 24, 25, 26] (by decide +kernel) (by decide +kernel)
set_option maxRecDepth 20000 in
theorem gX5_isReadyBy_X3_head : GoodIn wsX5_isReadyBy (wsV RX5 77 RX3 yX3_head wsX3_head) := goodIn_app (goodIn_of _ (by decide +kernel)) ggX5_isReadyBy_X3_head
theorem dX5_isReadyBy_0 : decode cX5_isReadyBy 0 = .ok (.aload_n 1, 1) := by decide +kernel
theorem dX5_isReadyBy_1 : decode cX5_isReadyBy 1 = .ok (.invokevirtual 77, 3) := by decide +kernel
theorem dX5_isReadyBy_4 : decode cX5_isReadyBy 4 = .ok (.aload_n 0, 1) := by decide +kernel
theorem dX5_isReadyBy_5 : decode cX5_isReadyBy 5 = .ok (.getfield 25, 3) := by decide +kernel
theorem dX5_isReadyBy_8 : decode cX5_isReadyBy 8 = .ok (.if_icmp .lt 7, 3) := by decide +kernel
theorem dX5_isReadyBy_11 : decode cX5_isReadyBy 11 = .ok (.iconst 1, 1) := by decide +kernel
theorem dX5_isReadyBy_12 : decode cX5_isReadyBy 12 = .ok (.goto 4, 3) := by decide +kernel
theorem dX5_isReadyBy_15 : decode cX5_isReadyBy 15 = .ok (.iconst 0, 1) := by decide +kernel
theorem dX5_isReadyBy_16 : decode cX5_isReadyBy 16 = .ok (.ireturn, 1) := by decide +kernel
set_option maxRecDepth 20000 in
theorem ggX6_init_X3_init : GoodIn wsX6_init wsX3_init := goodIn_r _ [14, 15, 2, 3, 4, 16, 17, 23, 24, 25, 26, 27, 28, 29, 30, 31] (by decide +kernel) (by decide +kernel)
set_option maxRecDepth 20000 in
theorem gX6_init_X3_init_n21 : GoodIn wsX6_init (wsX3_init) := ggX6_init_X3_init
theorem dX6_init_0 : decode cX6_init 0 = .ok (.aload_n 0, 1) := by decide +kernel
theorem dX6_init_1 : decode cX6_init 1 = .ok (.invokespecial 3, 3) := by decide +kernel
theorem dX6_init_4 : decode cX6_init 4 = .ok (.aload_n 0, 1) := by decide +kernel
theorem dX6_init_5 : decode cX6_init 5 = .ok (.bipush 8, 2) := by decide +kernel
theorem dX6_init_7 : decode cX6_init 7 = .ok (.newarray .int, 2) := by decide +kernel
theorem dX6_init_9 : decode cX6_init 9 = .ok (.putfield 9, 3) := by decide +kernel
theorem dX6_init_12 : decode cX6_init 12 = .ok (.aload_n 0, 1) := by decide +kernel
theorem dX6_init_13 : decode cX6_init 13 = .ok (.bipush 20, 2) := by decide +kernel
theorem dX6_init_15 : decode cX6_init 15 = .ok (.anewarray 15, 3) := by decide +kernel
theorem dX6_init_18 : decode cX6_init 18 = .ok (.putfield 17, 3) := by decide +kernel
theorem dX6_init_21 : decode cX6_init 21 = .ok (.aload_n 0, 1) := by decide +kernel
theorem dX6_init_22 : decode cX6_init 22 = .ok (.new 15, 3) := by decide +kernel
theorem dX6_init_25 : decode cX6_init 25 = .ok (.dup, 1) := by decide +kernel
theorem dX6_init_26 : decode cX6_init 26 = .ok (.invokespecial 21, 3) := by decide +kernel
theorem dX6_init_29 : decode cX6_init 29 = .ok (.putfield 22, 3) := by decide +kernel
theorem dX6_init_32 : decode cX6_init 32 = .ok (.aload_n 0, 1) := by decide +kernel
theorem dX6_init_33 : decode cX6_init 33 = .ok (.aload_n 1, 1) := by decide +kernel
theorem dX6_init_34 : decode cX6_init 34 = .ok (.putfield 26, 3) := by decide +kernel
theorem dX6_init_37 : decode cX6_init 37 = .ok (.aload_n 0, 1) := by decide +kernel
theorem dX6_init_38 : decode cX6_init 38 = .ok (.getfield 22, 3) := by decide +kernel
theorem dX6_init_41 : decode cX6_init 41 = .ok (.bipush 60, 2) := by decide +kernel
theorem dX6_init_43 : decode cX6_init 43 = .ok (.putfield 30, 3) := by decide +kernel
theorem dX6_init_46 : decode cX6_init 46 = .ok (.iconst 0, 1) := by decide +kernel
theorem dX6_init_47 : decode cX6_init 47 = .ok (.istore_n 2, 1) := by decide +kernel
theorem dX6_init_48 : decode cX6_init 48 = .ok (.iload_n 2, 1) := by decide +kernel
theorem dX6_init_49 : decode cX6_init 49 = .ok (.bipush 20, 2) := by decide +kernel
theorem dX6_init_51 : decode cX6_init 51 = .ok (.if_icmp .ge 19, 3) := by decide +kernel
theorem dX6_init_54 : decode cX6_init 54 = .ok (.aload_n 0, 1) := by decide +kernel
theorem dX6_init_55 : decode cX6_init 55 = .ok (.getfield 17, 3) := by decide +kernel
theorem dX6_init_58 : decode cX6_init 58 = .ok (.iload_n 2, 1) := by decide +kernel
theorem dX6_init_59 : decode cX6_init 59 = .ok (.aload_n 0, 1) := by decide +kernel
theorem dX6_init_60 : decode cX6_init 60 = .ok (.getfield 22, 3) := by decide +kernel
theorem dX6_init_63 : decode cX6_init 63 = .ok (.aastore, 1) := by decide +kernel
theorem dX6_init_64 : decode cX6_init 64 = .ok (.iinc 2 1, 3) := by decide +kernel
theorem dX6_init_67 : decode cX6_init 67 = .ok (.goto (-19), 3) := by decide +kernel
theorem dX6_init_70 : decode cX6_init 70 = .ok (.return_, 1) := by decide +kernel
theorem dX6_begin_0 : decode cX6_begin 0 = .ok (.aload_n 0, 1) := by decide +kernel
theorem dX6_begin_1 : decode cX6_begin 1 = .ok (.getfield 26, 3) := by decide +kernel
theorem dX6_begin_4 : decode cX6_begin 4 = .ok (.getfield 34, 3) := by decide +kernel
theorem dX6_begin_7 : decode cX6_begin 7 = .ok (.iconst 0, 1) := by decide +kernel
theorem dX6_begin_8 : decode cX6_begin 8 = .ok (.aload_n 0, 1) := by decide +kernel
theorem dX6_begin_9 : decode cX6_begin 9 = .ok (.getfield 9, 3) := by decide +kernel
theorem dX6_begin_12 : decode cX6_begin 12 = .ok (.iconst 0, 1) := by decide +kernel
theorem dX6_begin_13 : decode cX6_begin 13 = .ok (.bipush 8, 2) := by decide +kernel
theorem dX6_begin_15 : decode cX6_begin 15 = .ok (.invokestatic 39, 3) := by decide +kernel
theorem dX6_begin_18 : decode cX6_begin 18 = .ok (.aload_n 0, 1) := by decide +kernel
theorem dX6_begin_19 : decode cX6_begin 19 = .ok (.iconst 0, 1) := by decide +kernel
theorem dX6_begin_20 : decode cX6_begin 20 = .ok (.putfield 45, 3) := by decide +kernel
theorem dX6_begin_23 : decode cX6_begin 23 = .ok (.return_, 1) := by decide +kernel
theorem dX6_last_0 : decode cX6_last 0 = .ok (.aload_n 0, 1) := by decide +kernel
theorem dX6_last_1 : decode cX6_last 1 = .ok (.getfield 45, 3) := by decide +kernel
theorem dX6_last_4 : decode cX6_last 4 = .ok (.ifCond .le 17, 3) := by decide +kernel
theorem dX6_last_7 : decode cX6_last 7 = .ok (.aload_n 0, 1) := by decide +kernel
theorem dX6_last_8 : decode cX6_last 8 = .ok (.getfield 17, 3) := by decide +kernel
theorem dX6_last_11 : decode cX6_last 11 = .ok (.aload_n 0, 1) := by decide +kernel
theorem dX6_last_12 : decode cX6_last 12 = .ok (.getfield 45, 3) := by decide +kernel
theorem dX6_last_15 : decode cX6_last 15 = .ok (.iconst 1, 1) := by decide +kernel
theorem dX6_last_16 : decode cX6_last 16 = .ok (.isub, 1) := by decide +kernel
theorem dX6_last_17 : decode cX6_last 17 = .ok (.aaload, 1) := by decide +kernel
theorem dX6_last_18 : decode cX6_last 18 = .ok (.goto 7, 3) := by decide +kernel
theorem dX6_last_21 : decode cX6_last 21 = .ok (.aload_n 0, 1) := by decide +kernel
theorem dX6_last_22 : decode cX6_last 22 = .ok (.getfield 22, 3) := by decide +kernel
theorem dX6_last_25 : decode cX6_last 25 = .ok (.areturn, 1) := by decide +kernel
set_option maxRecDepth 20000 in
theorem ggX6_isOpen_X6_last : GoodIn wsX6_isOpen wsX6_last := goodIn_r _ [7, 1, 8, 9, 23, 24, 25, 26, 27] (by decide +kernel) (by decide +kernel)
set_option maxRecDepth 20000 in
theorem gX6_isOpen_X6_last : GoodIn wsX6_isOpen (wsV RX6 48 RX6 yX6_last wsX6_last) := goodIn_app (goodIn_of _ (by decide +kernel)) ggX6_isOpen_X6_last
set_option maxRecDepth 20000 in
theorem ggX6_isOpen_X5_isReadyBy : GoodIn wsX6_isOpen wsX5_isReadyBy := goodIn_r _ [14, 15, 16, 17, 18, 19, 20, 21, 22, 28, 29, 30, 31, 32, 33, 34, 35, 36, 37, 38, 39, 40, 41, 42, 43, 44, 45] (by decide +kernel) (by decide +kernel)
set_option maxRecDepth 20000 in
theorem gX6_isOpen_X5_isReadyBy : GoodIn wsX6_isOpen (wsV RX6 52 RX5 yX5_isReadyBy wsX5_isReadyBy) := goodIn_app (goodIn_of _ (by decide +kernel)) ggX6_isOpen_X5_isReadyBy
theorem dX6_isOpen_0 : decode cX6_isOpen 0 = .ok (.aload_n 0, 1) := by decide +kernel
theorem dX6_isOpen_1 : decode cX6_isOpen 1 = .ok (.getfield 45, 3) := by decide +kernel
theorem dX6_isOpen_4 : decode cX6_isOpen 4 = .ok (.bipush 20, 2) := by decide +kernel
theorem dX6_isOpen_6 : decode cX6_isOpen 6 = .ok (.if_icmp .ge 21, 3) := by decide +kernel
theorem dX6_isOpen_9 : decode cX6_isOpen 9 = .ok (.aload_n 0, 1) := by decide +kernel
theorem dX6_isOpen_10 : decode cX6_isOpen 10 = .ok (.getfield 26, 3) := by decide +kernel
theorem dX6_isOpen_13 : decode cX6_isOpen 13 = .ok (.aload_n 0, 1) := by decide +kernel
theorem dX6_isOpen_14 : decode cX6_isOpen 14 = .ok (.invokevirtual 48, 3) := by decide +kernel
theorem dX6_isOpen_17 : decode cX6_isOpen 17 = .ok (.invokevirtual 52, 3) := by decide +kernel
theorem dX6_isOpen_20 : decode cX6_isOpen 20 = .ok (.ifCond .ne 7, 3) := by decide +kernel
theorem dX6_isOpen_23 : decode cX6_isOpen 23 = .ok (.iconst 1, 1) := by decide +kernel
theorem dX6_isOpen_24 : decode cX6_isOpen 24 = .ok (.goto 4, 3) := by decide +kernel
theorem dX6_isOpen_27 : decode cX6_isOpen 27 = .ok (.iconst 0, 1) := by decide +kernel
theorem dX6_isOpen_28 : decode cX6_isOpen 28 = .ok (.ireturn, 1) := by decide +kernel
set_option maxRecDepth 20000 in
theorem ggX6_push_X6_addSlates : GoodIn wsX6_push wsX6_addSlates := goodIn_r _ [7, 8, 9, 10, 11, 6, 12, 13, 14, 15, 21, 22, 23, 24, 25, 26, 27, 28, 29] (by decide +kernel) (by decide +kernel)
set_option maxRecDepth 20000 in
theorem gX6_push_X6_addSlates : GoodIn wsX6_push (va_wsS RX6 56 yX6_addSlates wsX6_addSlates) := goodIn_app (goodIn_of _ (by decide +kernel)) ggX6_push_X6_addSlates
theorem dX6_push_0 : decode cX6_push 0 = .ok (.aload_n 0, 1) := by decide +kernel
theorem dX6_push_1 : decode cX6_push 1 = .ok (.getfield 45, 3) := by decide +kernel
theorem dX6_push_4 : decode cX6_push 4 = .ok (.bipush 20, 2) := by decide +kernel
theorem dX6_push_6 : decode cX6_push 6 = .ok (.if_icmp .lt 4, 3) := by decide +kernel
theorem dX6_push_9 : decode cX6_push 9 = .ok (.return_, 1) := by decide +kernel
theorem dX6_push_10 : decode cX6_push 10 = .ok (.aload_n 0, 1) := by decide +kernel
theorem dX6_push_11 : decode cX6_push 11 = .ok (.getfield 17, 3) := by decide +kernel
theorem dX6_push_14 : decode cX6_push 14 = .ok (.aload_n 0, 1) := by decide +kernel
theorem dX6_push_15 : decode cX6_push 15 = .ok (.getfield 45, 3) := by decide +kernel
theorem dX6_push_18 : decode cX6_push 18 = .ok (.aload_n 1, 1) := by decide +kernel
theorem dX6_push_19 : decode cX6_push 19 = .ok (.aastore, 1) := by decide +kernel
theorem dX6_push_20 : decode cX6_push 20 = .ok (.aload_n 0, 1) := by decide +kernel
theorem dX6_push_21 : decode cX6_push 21 = .ok (.dup, 1) := by decide +kernel
theorem dX6_push_22 : decode cX6_push 22 = .ok (.getfield 45, 3) := by decide +kernel
theorem dX6_push_25 : decode cX6_push 25 = .ok (.iconst 1, 1) := by decide +kernel
theorem dX6_push_26 : decode cX6_push 26 = .ok (.iadd, 1) := by decide +kernel
theorem dX6_push_27 : decode cX6_push 27 = .ok (.putfield 45, 3) := by decide +kernel
theorem dX6_push_30 : decode cX6_push 30 = .ok (.aload_n 0, 1) := by decide +kernel
theorem dX6_push_31 : decode cX6_push 31 = .ok (.getfield 9, 3) := by decide +kernel
theorem dX6_push_34 : decode cX6_push 34 = .ok (.aload_n 1, 1) := by decide +kernel
theorem dX6_push_35 : decode cX6_push 35 = .ok (.iconst (-1), 1) := by decide +kernel
theorem dX6_push_36 : decode cX6_push 36 = .ok (.invokestatic 56, 3) := by decide +kernel
theorem dX6_push_39 : decode cX6_push 39 = .ok (.return_, 1) := by decide +kernel
set_option maxRecDepth 20000 in
theorem ggX6_pop_X6_last : GoodIn wsX6_pop wsX6_last := goodIn_r _ [7, 1, 8, 9, 21, 22, 23, 24, 25] (by decide +kernel) (by decide +kernel)
set_option maxRecDepth 20000 in
theorem gX6_pop_X6_last : GoodIn wsX6_pop (wsV RX6 48 RX6 yX6_last wsX6_last) := goodIn_app (goodIn_of _ (by decide +kernel)) ggX6_pop_X6_last
set_option maxRecDepth 20000 in
theorem ggX6_pop_X6_addSlates : GoodIn wsX6_pop wsX6_addSlates := goodIn_r _ [12, 13, 14, 15, 16, 6, 17, 18, 19, 20, 26, 27, 28, 29, 30, 31, 32, 33, 34] (by decide +kernel) (by decide +kernel)
set_option maxRecDepth 20000 in
theorem gX6_pop_X6_addSlates : GoodIn wsX6_pop (va_wsS RX6 56 yX6_addSlates wsX6_addSlates) := goodIn_app (goodIn_of _ (by decide +kernel)) ggX6_pop_X6_addSlates
theorem dX6_pop_0 : decode cX6_pop 0 = .ok (.aload_n 0, 1) := by decide +kernel
theorem dX6_pop_1 : decode cX6_pop 1 = .ok (.invokevirtual 48, 3) := by decide +kernel
theorem dX6_pop_4 : decode cX6_pop 4 = .ok (.astore_n 1, 1) := by decide +kernel
theorem dX6_pop_5 : decode cX6_pop 5 = .ok (.aload_n 0, 1) := by decide +kernel
theorem dX6_pop_6 : decode cX6_pop 6 = .ok (.getfield 45, 3) := by decide +kernel
theorem dX6_pop_9 : decode cX6_pop 9 = .ok (.ifCond .le 22, 3) := by decide +kernel
theorem dX6_pop_12 : decode cX6_pop 12 = .ok (.aload_n 0, 1) := by decide +kernel
theorem dX6_pop_13 : decode cX6_pop 13 = .ok (.dup, 1) := by decide +kernel
theorem dX6_pop_14 : decode cX6_pop 14 = .ok (.getfield 45, 3) := by decide +kernel
theorem dX6_pop_17 : decode cX6_pop 17 = .ok (.iconst 1, 1) := by decide +kernel
theorem dX6_pop_18 : decode cX6_pop 18 = .ok (.isub, 1) := by decide +kernel
theorem dX6_pop_19 : decode cX6_pop 19 = .ok (.putfield 45, 3) := by decide +kernel
theorem dX6_pop_22 : decode cX6_pop 22 = .ok (.aload_n 0, 1) := by decide +kernel
theorem dX6_pop_23 : decode cX6_pop 23 = .ok (.getfield 9, 3) := by decide +kernel
theorem dX6_pop_26 : decode cX6_pop 26 = .ok (.aload_n 1, 1) := by decide +kernel
theorem dX6_pop_27 : decode cX6_pop 27 = .ok (.iconst 1, 1) := by decide +kernel
theorem dX6_pop_28 : decode cX6_pop 28 = .ok (.invokestatic 56, 3) := by decide +kernel
theorem dX6_pop_31 : decode cX6_pop 31 = .ok (.aload_n 1, 1) := by decide +kernel
theorem dX6_pop_32 : decode cX6_pop 32 = .ok (.areturn, 1) := by decide +kernel
set_option maxRecDepth 20000 in
theorem ggX6_addSlates_X6_addTo : GoodIn wsX6_addSlates wsX6_addTo := goodIn_r _ [6, 7, 8, 9] (by decide +kernel) (by decide +kernel)
set_option maxRecDepth 20000 in
theorem gX6_addSlates_X6_addTo : GoodIn wsX6_addSlates (va_wsS RX6 64 yX6_addTo wsX6_addTo) := goodIn_app (goodIn_of _ (by decide +kernel)) ggX6_addSlates_X6_addTo
theorem dX6_addSlates_0 : decode cX6_addSlates 0 = .ok (.iconst 0, 1) := by decide +kernel
theorem dX6_addSlates_1 : decode cX6_addSlates 1 = .ok (.istore_n 3, 1) := by decide +kernel
theorem dX6_addSlates_2 : decode cX6_addSlates 2 = .ok (.iload_n 3, 1) := by decide +kernel
theorem dX6_addSlates_3 : decode cX6_addSlates 3 = .ok (.aload_n 1, 1) := by decide +kernel
theorem dX6_addSlates_4 : decode cX6_addSlates 4 = .ok (.getfield 60, 3) := by decide +kernel
theorem dX6_addSlates_7 : decode cX6_addSlates 7 = .ok (.if_icmp .ge 20, 3) := by decide +kernel
theorem dX6_addSlates_10 : decode cX6_addSlates 10 = .ok (.aload_n 0, 1) := by decide +kernel
theorem dX6_addSlates_11 : decode cX6_addSlates 11 = .ok (.aload_n 1, 1) := by decide +kernel
theorem dX6_addSlates_12 : decode cX6_addSlates 12 = .ok (.getfield 61, 3) := by decide +kernel
theorem dX6_addSlates_15 : decode cX6_addSlates 15 = .ok (.iload_n 3, 1) := by decide +kernel
theorem dX6_addSlates_16 : decode cX6_addSlates 16 = .ok (.iaload, 1) := by decide +kernel
theorem dX6_addSlates_17 : decode cX6_addSlates 17 = .ok (.iload_n 2, 1) := by decide +kernel
theorem dX6_addSlates_18 : decode cX6_addSlates 18 = .ok (.invokestatic 64, 3) := by decide +kernel
theorem dX6_addSlates_21 : decode cX6_addSlates 21 = .ok (.iinc 3 1, 3) := by decide +kernel
theorem dX6_addSlates_24 : decode cX6_addSlates 24 = .ok (.goto (-22), 3) := by decide +kernel
theorem dX6_addSlates_27 : decode cX6_addSlates 27 = .ok (.return_, 1) := by decide +kernel
set_option maxRecDepth 20000 in
theorem ggX6_addTo_X8_isWithin : GoodIn wsX6_addTo wsX8_isWithin := goodIn_r _ [3] (by decide +kernel) (by decide +kernel)
set_option maxRecDepth 20000 in
theorem gX6_addTo_X8_isWithin_n68 : GoodIn wsX6_addTo (wsX8_isWithin) := ggX6_addTo_X8_isWithin
theorem dX6_addTo_0 : decode cX6_addTo 0 = .ok (.iload_n 1, 1) := by decide +kernel
theorem dX6_addTo_1 : decode cX6_addTo 1 = .ok (.iconst 0, 1) := by decide +kernel
theorem dX6_addTo_2 : decode cX6_addTo 2 = .ok (.aload_n 0, 1) := by decide +kernel
theorem dX6_addTo_3 : decode cX6_addTo 3 = .ok (.arraylength, 1) := by decide +kernel
theorem dX6_addTo_4 : decode cX6_addTo 4 = .ok (.iconst 1, 1) := by decide +kernel
theorem dX6_addTo_5 : decode cX6_addTo 5 = .ok (.isub, 1) := by decide +kernel
theorem dX6_addTo_6 : decode cX6_addTo 6 = .ok (.invokestatic 68, 3) := by decide +kernel
theorem dX6_addTo_9 : decode cX6_addTo 9 = .ok (.ifCond .eq 10, 3) := by decide +kernel
theorem dX6_addTo_12 : decode cX6_addTo 12 = .ok (.aload_n 0, 1) := by decide +kernel
theorem dX6_addTo_13 : decode cX6_addTo 13 = .ok (.iload_n 1, 1) := by decide +kernel
theorem dX6_addTo_14 : decode cX6_addTo 14 = .ok (.dup2, 1) := by decide +kernel
theorem dX6_addTo_15 : decode cX6_addTo 15 = .ok (.iaload, 1) := by decide +kernel
theorem dX6_addTo_16 : decode cX6_addTo 16 = .ok (.iload_n 2, 1) := by decide +kernel
theorem dX6_addTo_17 : decode cX6_addTo 17 = .ok (.iadd, 1) := by decide +kernel
theorem dX6_addTo_18 : decode cX6_addTo 18 = .ok (.iastore, 1) := by decide +kernel
theorem dX6_addTo_19 : decode cX6_addTo 19 = .ok (.return_, 1) := by decide +kernel
theorem dX6_laidOf_0 : decode cX6_laidOf 0 = .ok (.iconst 0, 1) := by decide +kernel
theorem dX6_laidOf_1 : decode cX6_laidOf 1 = .ok (.istore_n 2, 1) := by decide +kernel
theorem dX6_laidOf_2 : decode cX6_laidOf 2 = .ok (.iconst 0, 1) := by decide +kernel
theorem dX6_laidOf_3 : decode cX6_laidOf 3 = .ok (.istore_n 3, 1) := by decide +kernel
theorem dX6_laidOf_4 : decode cX6_laidOf 4 = .ok (.iload_n 3, 1) := by decide +kernel
theorem dX6_laidOf_5 : decode cX6_laidOf 5 = .ok (.aload_n 0, 1) := by decide +kernel
theorem dX6_laidOf_6 : decode cX6_laidOf 6 = .ok (.getfield 45, 3) := by decide +kernel
theorem dX6_laidOf_9 : decode cX6_laidOf 9 = .ok (.if_icmp .ge 51, 3) := by decide +kernel
theorem dX6_laidOf_12 : decode cX6_laidOf 12 = .ok (.aload_n 0, 1) := by decide +kernel
theorem dX6_laidOf_13 : decode cX6_laidOf 13 = .ok (.getfield 17, 3) := by decide +kernel
theorem dX6_laidOf_16 : decode cX6_laidOf 16 = .ok (.iload_n 3, 1) := by decide +kernel
theorem dX6_laidOf_17 : decode cX6_laidOf 17 = .ok (.aaload, 1) := by decide +kernel
theorem dX6_laidOf_18 : decode cX6_laidOf 18 = .ok (.astore 4, 2) := by decide +kernel
theorem dX6_laidOf_20 : decode cX6_laidOf 20 = .ok (.iconst 0, 1) := by decide +kernel
theorem dX6_laidOf_21 : decode cX6_laidOf 21 = .ok (.istore 5, 2) := by decide +kernel
theorem dX6_laidOf_23 : decode cX6_laidOf 23 = .ok (.iload 5, 2) := by decide +kernel
theorem dX6_laidOf_25 : decode cX6_laidOf 25 = .ok (.aload 4, 2) := by decide +kernel
theorem dX6_laidOf_27 : decode cX6_laidOf 27 = .ok (.getfield 60, 3) := by decide +kernel
theorem dX6_laidOf_30 : decode cX6_laidOf 30 = .ok (.if_icmp .ge 24, 3) := by decide +kernel
theorem dX6_laidOf_33 : decode cX6_laidOf 33 = .ok (.aload 4, 2) := by decide +kernel
theorem dX6_laidOf_35 : decode cX6_laidOf 35 = .ok (.getfield 61, 3) := by decide +kernel
theorem dX6_laidOf_38 : decode cX6_laidOf 38 = .ok (.iload 5, 2) := by decide +kernel
theorem dX6_laidOf_40 : decode cX6_laidOf 40 = .ok (.iaload, 1) := by decide +kernel
theorem dX6_laidOf_41 : decode cX6_laidOf 41 = .ok (.iload_n 1, 1) := by decide +kernel
theorem dX6_laidOf_42 : decode cX6_laidOf 42 = .ok (.if_icmp .ne 6, 3) := by decide +kernel
theorem dX6_laidOf_45 : decode cX6_laidOf 45 = .ok (.iinc 2 1, 3) := by decide +kernel
theorem dX6_laidOf_48 : decode cX6_laidOf 48 = .ok (.iinc 5 1, 3) := by decide +kernel
theorem dX6_laidOf_51 : decode cX6_laidOf 51 = .ok (.goto (-28), 3) := by decide +kernel
theorem dX6_laidOf_54 : decode cX6_laidOf 54 = .ok (.iinc 3 1, 3) := by decide +kernel
theorem dX6_laidOf_57 : decode cX6_laidOf 57 = .ok (.goto (-53), 3) := by decide +kernel
theorem dX6_laidOf_60 : decode cX6_laidOf 60 = .ok (.iload_n 2, 1) := by decide +kernel
theorem dX6_laidOf_61 : decode cX6_laidOf 61 = .ok (.ireturn, 1) := by decide +kernel
theorem dX6_lapHeldBy_0 : decode cX6_lapHeldBy 0 = .ok (.iload_n 1, 1) := by decide +kernel
theorem dX6_lapHeldBy_1 : decode cX6_lapHeldBy 1 = .ok (.ifCond .lt 13, 3) := by decide +kernel
theorem dX6_lapHeldBy_4 : decode cX6_lapHeldBy 4 = .ok (.iload_n 1, 1) := by decide +kernel
theorem dX6_lapHeldBy_5 : decode cX6_lapHeldBy 5 = .ok (.aload_n 0, 1) := by decide +kernel
theorem dX6_lapHeldBy_6 : decode cX6_lapHeldBy 6 = .ok (.getfield 45, 3) := by decide +kernel
theorem dX6_lapHeldBy_9 : decode cX6_lapHeldBy 9 = .ok (.iconst 1, 1) := by decide +kernel
theorem dX6_lapHeldBy_10 : decode cX6_lapHeldBy 10 = .ok (.isub, 1) := by decide +kernel
theorem dX6_lapHeldBy_11 : decode cX6_lapHeldBy 11 = .ok (.if_icmp .lt 6, 3) := by decide +kernel
theorem dX6_lapHeldBy_14 : decode cX6_lapHeldBy 14 = .ok (.bipush (-4), 2) := by decide +kernel
theorem dX6_lapHeldBy_16 : decode cX6_lapHeldBy 16 = .ok (.ireturn, 1) := by decide +kernel
theorem dX6_lapHeldBy_17 : decode cX6_lapHeldBy 17 = .ok (.aload_n 0, 1) := by decide +kernel
theorem dX6_lapHeldBy_18 : decode cX6_lapHeldBy 18 = .ok (.getfield 17, 3) := by decide +kernel
theorem dX6_lapHeldBy_21 : decode cX6_lapHeldBy 21 = .ok (.iload_n 1, 1) := by decide +kernel
theorem dX6_lapHeldBy_22 : decode cX6_lapHeldBy 22 = .ok (.aaload, 1) := by decide +kernel
theorem dX6_lapHeldBy_23 : decode cX6_lapHeldBy 23 = .ok (.getfield 30, 3) := by decide +kernel
theorem dX6_lapHeldBy_26 : decode cX6_lapHeldBy 26 = .ok (.aload_n 0, 1) := by decide +kernel
theorem dX6_lapHeldBy_27 : decode cX6_lapHeldBy 27 = .ok (.getfield 17, 3) := by decide +kernel
theorem dX6_lapHeldBy_30 : decode cX6_lapHeldBy 30 = .ok (.iload_n 1, 1) := by decide +kernel
theorem dX6_lapHeldBy_31 : decode cX6_lapHeldBy 31 = .ok (.aaload, 1) := by decide +kernel
theorem dX6_lapHeldBy_32 : decode cX6_lapHeldBy 32 = .ok (.getfield 72, 3) := by decide +kernel
theorem dX6_lapHeldBy_35 : decode cX6_lapHeldBy 35 = .ok (.isub, 1) := by decide +kernel
theorem dX6_lapHeldBy_36 : decode cX6_lapHeldBy 36 = .ok (.aload_n 0, 1) := by decide +kernel
theorem dX6_lapHeldBy_37 : decode cX6_lapHeldBy 37 = .ok (.getfield 17, 3) := by decide +kernel
theorem dX6_lapHeldBy_40 : decode cX6_lapHeldBy 40 = .ok (.iload_n 1, 1) := by decide +kernel
theorem dX6_lapHeldBy_41 : decode cX6_lapHeldBy 41 = .ok (.iconst 1, 1) := by decide +kernel
theorem dX6_lapHeldBy_42 : decode cX6_lapHeldBy 42 = .ok (.iadd, 1) := by decide +kernel
theorem dX6_lapHeldBy_43 : decode cX6_lapHeldBy 43 = .ok (.aaload, 1) := by decide +kernel
theorem dX6_lapHeldBy_44 : decode cX6_lapHeldBy 44 = .ok (.getfield 72, 3) := by decide +kernel
theorem dX6_lapHeldBy_47 : decode cX6_lapHeldBy 47 = .ok (.isub, 1) := by decide +kernel
theorem dX6_lapHeldBy_48 : decode cX6_lapHeldBy 48 = .ok (.ireturn, 1) := by decide +kernel
theorem dX6_waste_0 : decode cX6_waste 0 = .ok (.iconst 0, 1) := by decide +kernel
theorem dX6_waste_1 : decode cX6_waste 1 = .ok (.istore_n 1, 1) := by decide +kernel
theorem dX6_waste_2 : decode cX6_waste 2 = .ok (.iconst 0, 1) := by decide +kernel
theorem dX6_waste_3 : decode cX6_waste 3 = .ok (.istore_n 2, 1) := by decide +kernel
theorem dX6_waste_4 : decode cX6_waste 4 = .ok (.iload_n 2, 1) := by decide +kernel
theorem dX6_waste_5 : decode cX6_waste 5 = .ok (.aload_n 0, 1) := by decide +kernel
theorem dX6_waste_6 : decode cX6_waste 6 = .ok (.getfield 45, 3) := by decide +kernel
theorem dX6_waste_9 : decode cX6_waste 9 = .ok (.if_icmp .ge 21, 3) := by decide +kernel
theorem dX6_waste_12 : decode cX6_waste 12 = .ok (.iload_n 1, 1) := by decide +kernel
theorem dX6_waste_13 : decode cX6_waste 13 = .ok (.aload_n 0, 1) := by decide +kernel
theorem dX6_waste_14 : decode cX6_waste 14 = .ok (.getfield 17, 3) := by decide +kernel
theorem dX6_waste_17 : decode cX6_waste 17 = .ok (.iload_n 2, 1) := by decide +kernel
theorem dX6_waste_18 : decode cX6_waste 18 = .ok (.aaload, 1) := by decide +kernel
theorem dX6_waste_19 : decode cX6_waste 19 = .ok (.getfield 75, 3) := by decide +kernel
theorem dX6_waste_22 : decode cX6_waste 22 = .ok (.iadd, 1) := by decide +kernel
theorem dX6_waste_23 : decode cX6_waste 23 = .ok (.istore_n 1, 1) := by decide +kernel
theorem dX6_waste_24 : decode cX6_waste 24 = .ok (.iinc 2 1, 3) := by decide +kernel
theorem dX6_waste_27 : decode cX6_waste 27 = .ok (.goto (-23), 3) := by decide +kernel
theorem dX6_waste_30 : decode cX6_waste 30 = .ok (.iload_n 1, 1) := by decide +kernel
theorem dX6_waste_31 : decode cX6_waste 31 = .ok (.ireturn, 1) := by decide +kernel
theorem dX6_slatesLeft_0 : decode cX6_slatesLeft 0 = .ok (.iconst 0, 1) := by decide +kernel
theorem dX6_slatesLeft_1 : decode cX6_slatesLeft 1 = .ok (.istore_n 1, 1) := by decide +kernel
theorem dX6_slatesLeft_2 : decode cX6_slatesLeft 2 = .ok (.iconst 0, 1) := by decide +kernel
theorem dX6_slatesLeft_3 : decode cX6_slatesLeft 3 = .ok (.istore_n 2, 1) := by decide +kernel
theorem dX6_slatesLeft_4 : decode cX6_slatesLeft 4 = .ok (.iload_n 2, 1) := by decide +kernel
theorem dX6_slatesLeft_5 : decode cX6_slatesLeft 5 = .ok (.aload_n 0, 1) := by decide +kernel
theorem dX6_slatesLeft_6 : decode cX6_slatesLeft 6 = .ok (.getfield 26, 3) := by decide +kernel
theorem dX6_slatesLeft_9 : decode cX6_slatesLeft 9 = .ok (.getfield 78, 3) := by decide +kernel
theorem dX6_slatesLeft_12 : decode cX6_slatesLeft 12 = .ok (.if_icmp .ge 18, 3) := by decide +kernel
theorem dX6_slatesLeft_15 : decode cX6_slatesLeft 15 = .ok (.iload_n 1, 1) := by decide +kernel
theorem dX6_slatesLeft_16 : decode cX6_slatesLeft 16 = .ok (.aload_n 0, 1) := by decide +kernel
theorem dX6_slatesLeft_17 : decode cX6_slatesLeft 17 = .ok (.getfield 9, 3) := by decide +kernel
theorem dX6_slatesLeft_20 : decode cX6_slatesLeft 20 = .ok (.iload_n 2, 1) := by decide +kernel
theorem dX6_slatesLeft_21 : decode cX6_slatesLeft 21 = .ok (.iaload, 1) := by decide +kernel
theorem dX6_slatesLeft_22 : decode cX6_slatesLeft 22 = .ok (.iadd, 1) := by decide +kernel
theorem dX6_slatesLeft_23 : decode cX6_slatesLeft 23 = .ok (.istore_n 1, 1) := by decide +kernel
theorem dX6_slatesLeft_24 : decode cX6_slatesLeft 24 = .ok (.iinc 2 1, 3) := by decide +kernel
theorem dX6_slatesLeft_27 : decode cX6_slatesLeft 27 = .ok (.goto (-23), 3) := by decide +kernel
theorem dX6_slatesLeft_30 : decode cX6_slatesLeft 30 = .ok (.iload_n 1, 1) := by decide +kernel
theorem dX6_slatesLeft_31 : decode cX6_slatesLeft 31 = .ok (.ireturn, 1) := by decide +kernel
theorem dX7_init_0 : decode cX7_init 0 = .ok (.aload_n 0, 1) := by decide +kernel
theorem dX7_init_1 : decode cX7_init 1 = .ok (.invokespecial 3, 3) := by decide +kernel
theorem dX7_init_4 : decode cX7_init 4 = .ok (.aload_n 0, 1) := by decide +kernel
theorem dX7_init_5 : decode cX7_init 5 = .ok (.sipush 200, 3) := by decide +kernel
theorem dX7_init_8 : decode cX7_init 8 = .ok (.newarray .char, 2) := by decide +kernel
theorem dX7_init_10 : decode cX7_init 10 = .ok (.putfield 9, 3) := by decide +kernel
theorem dX7_init_13 : decode cX7_init 13 = .ok (.aload_n 0, 1) := by decide +kernel
theorem dX7_init_14 : decode cX7_init 14 = .ok (.iconst 3, 1) := by decide +kernel
theorem dX7_init_15 : decode cX7_init 15 = .ok (.newarray .int, 2) := by decide +kernel
theorem dX7_init_17 : decode cX7_init 17 = .ok (.putfield 15, 3) := by decide +kernel
theorem dX7_init_20 : decode cX7_init 20 = .ok (.return_, 1) := by decide +kernel
theorem dX7_append_0 : decode cX7_append 0 = .ok (.aload_n 0, 1) := by decide +kernel
theorem dX7_append_1 : decode cX7_append 1 = .ok (.getfield 19, 3) := by decide +kernel
theorem dX7_append_4 : decode cX7_append 4 = .ok (.sipush 200, 3) := by decide +kernel
theorem dX7_append_7 : decode cX7_append 7 = .ok (.if_icmp .lt 5, 3) := by decide +kernel
theorem dX7_append_10 : decode cX7_append 10 = .ok (.iconst 0, 1) := by decide +kernel
theorem dX7_append_11 : decode cX7_append 11 = .ok (.ireturn, 1) := by decide +kernel
theorem dX7_append_12 : decode cX7_append 12 = .ok (.aload_n 0, 1) := by decide +kernel
theorem dX7_append_13 : decode cX7_append 13 = .ok (.getfield 9, 3) := by decide +kernel
theorem dX7_append_16 : decode cX7_append 16 = .ok (.aload_n 0, 1) := by decide +kernel
theorem dX7_append_17 : decode cX7_append 17 = .ok (.getfield 19, 3) := by decide +kernel
theorem dX7_append_20 : decode cX7_append 20 = .ok (.iload_n 1, 1) := by decide +kernel
theorem dX7_append_21 : decode cX7_append 21 = .ok (.castore, 1) := by decide +kernel
theorem dX7_append_22 : decode cX7_append 22 = .ok (.aload_n 0, 1) := by decide +kernel
theorem dX7_append_23 : decode cX7_append 23 = .ok (.dup, 1) := by decide +kernel
theorem dX7_append_24 : decode cX7_append 24 = .ok (.getfield 19, 3) := by decide +kernel
theorem dX7_append_27 : decode cX7_append 27 = .ok (.iconst 1, 1) := by decide +kernel
theorem dX7_append_28 : decode cX7_append 28 = .ok (.iadd, 1) := by decide +kernel
theorem dX7_append_29 : decode cX7_append 29 = .ok (.putfield 19, 3) := by decide +kernel
theorem dX7_append_32 : decode cX7_append 32 = .ok (.iconst 1, 1) := by decide +kernel
theorem dX7_append_33 : decode cX7_append 33 = .ok (.ireturn, 1) := by decide +kernel
theorem dX7_clear_0 : decode cX7_clear 0 = .ok (.aload_n 0, 1) := by decide +kernel
theorem dX7_clear_1 : decode cX7_clear 1 = .ok (.iconst 0, 1) := by decide +kernel
theorem dX7_clear_2 : decode cX7_clear 2 = .ok (.putfield 19, 3) := by decide +kernel
theorem dX7_clear_5 : decode cX7_clear 5 = .ok (.return_, 1) := by decide +kernel
set_option maxRecDepth 20000 in
theorem ggX7_readInto_X5_clear : GoodIn wsX7_readInto wsX5_clear := goodIn_r _ [7, 8, 9, 10, 11, 12, 13, 77, 78, 79, 80, 81, 82, 83, 84, 85] (by decide +kernel) (by decide +kernel)
set_option maxRecDepth 20000 in
theorem gX7_readInto_X5_clear : GoodIn wsX7_readInto (wsV RX7 23 RX5 yX5_clear wsX5_clear) := goodIn_app (goodIn_of _ (by decide +kernel)) ggX7_readInto_X5_clear
set_option maxRecDepth 20000 in
theorem ggX7_readInto_X7_readItem : GoodIn wsX7_readInto wsX7_readItem := goodIn_r _ [18, 1, 19, 20, 21, 22, 17, 23, 2, 24, 25, 26, 27, 28, 29, 30, 31, 32, 33, 34, 35, 36, 37, 38, 39, 40, 41, 6, 42, 43, 44, 45, 46, 8, 47, 48, 49, 50, 51, 52, 53, 54, 55, 56, 57, 58, 59, 60, 61, 62, 63, 64, 9, 10, 65, 66, 67, 68, 11, 12, 69, 70, 71, 72, 13, 73, 74, 75, 76, 77, 78, 79, 80, 81, 82, 83, 84, 85] (by decide +kernel) (by decide +kernel)
set_option maxRecDepth 20000 in
theorem gX7_readInto_X7_readItem : GoodIn wsX7_readInto (wsV RX7 31 RX7 yX7_readItem wsX7_readItem) := goodIn_app (goodIn_of _ (by decide +kernel)) ggX7_readInto_X7_readItem
theorem dX7_readInto_0 : decode cX7_readInto 0 = .ok (.aload_n 1, 1) := by decide +kernel
theorem dX7_readInto_1 : decode cX7_readInto 1 = .ok (.invokevirtual 23, 3) := by decide +kernel
theorem dX7_readInto_4 : decode cX7_readInto 4 = .ok (.aload_n 0, 1) := by decide +kernel
theorem dX7_readInto_5 : decode cX7_readInto 5 = .ok (.iconst 0, 1) := by decide +kernel
theorem dX7_readInto_6 : decode cX7_readInto 6 = .ok (.putfield 28, 3) := by decide +kernel
theorem dX7_readInto_9 : decode cX7_readInto 9 = .ok (.iconst 0, 1) := by decide +kernel
theorem dX7_readInto_10 : decode cX7_readInto 10 = .ok (.istore_n 2, 1) := by decide +kernel
theorem dX7_readInto_11 : decode cX7_readInto 11 = .ok (.iload_n 2, 1) := by decide +kernel
theorem dX7_readInto_12 : decode cX7_readInto 12 = .ok (.sipush 200, 3) := by decide +kernel
theorem dX7_readInto_15 : decode cX7_readInto 15 = .ok (.if_icmp .ge 35, 3) := by decide +kernel
theorem dX7_readInto_18 : decode cX7_readInto 18 = .ok (.aload_n 0, 1) := by decide +kernel
theorem dX7_readInto_19 : decode cX7_readInto 19 = .ok (.getfield 28, 3) := by decide +kernel
theorem dX7_readInto_22 : decode cX7_readInto 22 = .ok (.aload_n 0, 1) := by decide +kernel
theorem dX7_readInto_23 : decode cX7_readInto 23 = .ok (.getfield 19, 3) := by decide +kernel
theorem dX7_readInto_26 : decode cX7_readInto 26 = .ok (.if_icmp .ge 24, 3) := by decide +kernel
theorem dX7_readInto_29 : decode cX7_readInto 29 = .ok (.aload_n 0, 1) := by decide +kernel
theorem dX7_readInto_30 : decode cX7_readInto 30 = .ok (.getfield 28, 3) := by decide +kernel
theorem dX7_readInto_33 : decode cX7_readInto 33 = .ok (.istore_n 3, 1) := by decide +kernel
theorem dX7_readInto_34 : decode cX7_readInto 34 = .ok (.aload_n 0, 1) := by decide +kernel
theorem dX7_readInto_35 : decode cX7_readInto 35 = .ok (.aload_n 1, 1) := by decide +kernel
theorem dX7_readInto_36 : decode cX7_readInto 36 = .ok (.invokevirtual 31, 3) := by decide +kernel
theorem dX7_readInto_39 : decode cX7_readInto 39 = .ok (.ifCond .ne 5, 3) := by decide +kernel
theorem dX7_readInto_42 : decode cX7_readInto 42 = .ok (.iload_n 3, 1) := by decide +kernel
theorem dX7_readInto_43 : decode cX7_readInto 43 = .ok (.ireturn, 1) := by decide +kernel
theorem dX7_readInto_44 : decode cX7_readInto 44 = .ok (.iinc 2 1, 3) := by decide +kernel
theorem dX7_readInto_47 : decode cX7_readInto 47 = .ok (.goto (-36), 3) := by decide +kernel
theorem dX7_readInto_50 : decode cX7_readInto 50 = .ok (.bipush (-4), 2) := by decide +kernel
theorem dX7_readInto_52 : decode cX7_readInto 52 = .ok (.ireturn, 1) := by decide +kernel
set_option maxRecDepth 20000 in
theorem ggX7_readItem_X7_letterHere : GoodIn wsX7_readItem wsX7_letterHere := goodIn_r _ [7, 1, 8, 9, 65, 66, 67, 68] (by decide +kernel) (by decide +kernel)
set_option maxRecDepth 20000 in
theorem gX7_readItem_X7_letterHere : GoodIn wsX7_readItem (wsV RX7 35 RX7 yX7_letterHere wsX7_letterHere) := goodIn_app (goodIn_of _ (by decide +kernel)) ggX7_readItem_X7_letterHere
set_option maxRecDepth 20000 in
theorem ggX7_readItem_X7_numbersOf : GoodIn wsX7_readItem wsX7_numbersOf := goodIn_r _ [12] (by decide +kernel) (by decide +kernel)
set_option maxRecDepth 20000 in
theorem gX7_readItem_X7_numbersOf : GoodIn wsX7_readItem (va_wsS RX7 39 yX7_numbersOf wsX7_numbersOf) := goodIn_app (goodIn_of _ (by decide +kernel)) ggX7_readItem_X7_numbersOf
set_option maxRecDepth 20000 in
theorem ggX7_readItem_X7_readNumber : GoodIn wsX7_readItem wsX7_readNumber := goodIn_r _ [16, 17, 18, 19, 20, 1, 3, 4, 5, 6, 7, 8, 9, 21, 22, 23, 65, 66, 67, 68] (by decide +kernel) (by decide +kernel)
set_option maxRecDepth 20000 in
theorem gX7_readItem_X7_readNumber : GoodIn wsX7_readItem (wsV RX7 43 RX7 yX7_readNumber wsX7_readNumber) := goodIn_app (goodIn_of _ (by decide +kernel)) ggX7_readItem_X7_readNumber
set_option maxRecDepth 20000 in
theorem ggX7_readItem_X5_take : GoodIn wsX7_readItem wsX5_take := goodIn_r _ [28, 29, 30, 31, 27, 32, 33, 34, 35, 36, 37, 38, 39, 40, 41, 42, 43, 44, 45, 46, 47, 48, 49, 50, 51, 52, 53, 54, 55, 56, 57, 58, 59, 60, 61, 62, 63, 64, 69, 70, 71, 72, 73, 74, 75, 76, 77] (by decide +kernel) (by decide +kernel)
set_option maxRecDepth 20000 in
theorem gX7_readItem_X5_take : GoodIn wsX7_readItem (wsV RX7 47 RX5 yX5_take wsX5_take) := goodIn_app (goodIn_of _ (by decide +kernel)) ggX7_readItem_X5_take
theorem dX7_readItem_0 : decode cX7_readItem 0 = .ok (.aload_n 0, 1) := by decide +kernel
theorem dX7_readItem_1 : decode cX7_readItem 1 = .ok (.invokevirtual 35, 3) := by decide +kernel
theorem dX7_readItem_4 : decode cX7_readItem 4 = .ok (.istore_n 2, 1) := by decide +kernel
theorem dX7_readItem_5 : decode cX7_readItem 5 = .ok (.aload_n 0, 1) := by decide +kernel
theorem dX7_readItem_6 : decode cX7_readItem 6 = .ok (.dup, 1) := by decide +kernel
theorem dX7_readItem_7 : decode cX7_readItem 7 = .ok (.getfield 28, 3) := by decide +kernel
theorem dX7_readItem_10 : decode cX7_readItem 10 = .ok (.iconst 1, 1) := by decide +kernel
theorem dX7_readItem_11 : decode cX7_readItem 11 = .ok (.iadd, 1) := by decide +kernel
theorem dX7_readItem_12 : decode cX7_readItem 12 = .ok (.putfield 28, 3) := by decide +kernel
theorem dX7_readItem_15 : decode cX7_readItem 15 = .ok (.iload_n 2, 1) := by decide +kernel
theorem dX7_readItem_16 : decode cX7_readItem 16 = .ok (.invokestatic 39, 3) := by decide +kernel
theorem dX7_readItem_19 : decode cX7_readItem 19 = .ok (.istore_n 3, 1) := by decide +kernel
theorem dX7_readItem_20 : decode cX7_readItem 20 = .ok (.iconst 0, 1) := by decide +kernel
theorem dX7_readItem_21 : decode cX7_readItem 21 = .ok (.istore 4, 2) := by decide +kernel
theorem dX7_readItem_23 : decode cX7_readItem 23 = .ok (.iload 4, 2) := by decide +kernel
theorem dX7_readItem_25 : decode cX7_readItem 25 = .ok (.iload_n 3, 1) := by decide +kernel
theorem dX7_readItem_26 : decode cX7_readItem 26 = .ok (.if_icmp .ge 68, 3) := by decide +kernel
theorem dX7_readItem_29 : decode cX7_readItem 29 = .ok (.aload_n 0, 1) := by decide +kernel
theorem dX7_readItem_30 : decode cX7_readItem 30 = .ok (.getfield 15, 3) := by decide +kernel
theorem dX7_readItem_33 : decode cX7_readItem 33 = .ok (.iload 4, 2) := by decide +kernel
theorem dX7_readItem_35 : decode cX7_readItem 35 = .ok (.aload_n 0, 1) := by decide +kernel
theorem dX7_readItem_36 : decode cX7_readItem 36 = .ok (.invokevirtual 43, 3) := by decide +kernel
theorem dX7_readItem_39 : decode cX7_readItem 39 = .ok (.iastore, 1) := by decide +kernel
theorem dX7_readItem_40 : decode cX7_readItem 40 = .ok (.iload 4, 2) := by decide +kernel
theorem dX7_readItem_42 : decode cX7_readItem 42 = .ok (.iload_n 3, 1) := by decide +kernel
theorem dX7_readItem_43 : decode cX7_readItem 43 = .ok (.iconst 1, 1) := by decide +kernel
theorem dX7_readItem_44 : decode cX7_readItem 44 = .ok (.isub, 1) := by decide +kernel
theorem dX7_readItem_45 : decode cX7_readItem 45 = .ok (.if_icmp .ge 8, 3) := by decide +kernel
theorem dX7_readItem_48 : decode cX7_readItem 48 = .ok (.bipush 44, 2) := by decide +kernel
theorem dX7_readItem_50 : decode cX7_readItem 50 = .ok (.goto 5, 3) := by decide +kernel
theorem dX7_readItem_53 : decode cX7_readItem 53 = .ok (.bipush 59, 2) := by decide +kernel
theorem dX7_readItem_55 : decode cX7_readItem 55 = .ok (.istore 5, 2) := by decide +kernel
theorem dX7_readItem_57 : decode cX7_readItem 57 = .ok (.aload_n 0, 1) := by decide +kernel
theorem dX7_readItem_58 : decode cX7_readItem 58 = .ok (.getfield 15, 3) := by decide +kernel
theorem dX7_readItem_61 : decode cX7_readItem 61 = .ok (.iload 4, 2) := by decide +kernel
theorem dX7_readItem_63 : decode cX7_readItem 63 = .ok (.iaload, 1) := by decide +kernel
theorem dX7_readItem_64 : decode cX7_readItem 64 = .ok (.ifCond .lt 12, 3) := by decide +kernel
theorem dX7_readItem_67 : decode cX7_readItem 67 = .ok (.aload_n 0, 1) := by decide +kernel
theorem dX7_readItem_68 : decode cX7_readItem 68 = .ok (.invokevirtual 35, 3) := by decide +kernel
theorem dX7_readItem_71 : decode cX7_readItem 71 = .ok (.iload 5, 2) := by decide +kernel
theorem dX7_readItem_73 : decode cX7_readItem 73 = .ok (.if_icmp .eq 5, 3) := by decide +kernel
theorem dX7_readItem_76 : decode cX7_readItem 76 = .ok (.iconst 0, 1) := by decide +kernel
theorem dX7_readItem_77 : decode cX7_readItem 77 = .ok (.ireturn, 1) := by decide +kernel
theorem dX7_readItem_78 : decode cX7_readItem 78 = .ok (.aload_n 0, 1) := by decide +kernel
theorem dX7_readItem_79 : decode cX7_readItem 79 = .ok (.dup, 1) := by decide +kernel
theorem dX7_readItem_80 : decode cX7_readItem 80 = .ok (.getfield 28, 3) := by decide +kernel
theorem dX7_readItem_83 : decode cX7_readItem 83 = .ok (.iconst 1, 1) := by decide +kernel
theorem dX7_readItem_84 : decode cX7_readItem 84 = .ok (.iadd, 1) := by decide +kernel
theorem dX7_readItem_85 : decode cX7_readItem 85 = .ok (.putfield 28, 3) := by decide +kernel
theorem dX7_readItem_88 : decode cX7_readItem 88 = .ok (.iinc 4 1, 3) := by decide +kernel
theorem dX7_readItem_91 : decode cX7_readItem 91 = .ok (.goto (-68), 3) := by decide +kernel
theorem dX7_readItem_94 : decode cX7_readItem 94 = .ok (.aload_n 1, 1) := by decide +kernel
theorem dX7_readItem_95 : decode cX7_readItem 95 = .ok (.iload_n 2, 1) := by decide +kernel
theorem dX7_readItem_96 : decode cX7_readItem 96 = .ok (.aload_n 0, 1) := by decide +kernel
theorem dX7_readItem_97 : decode cX7_readItem 97 = .ok (.getfield 15, 3) := by decide +kernel
theorem dX7_readItem_100 : decode cX7_readItem 100 = .ok (.iconst 0, 1) := by decide +kernel
theorem dX7_readItem_101 : decode cX7_readItem 101 = .ok (.iaload, 1) := by decide +kernel
theorem dX7_readItem_102 : decode cX7_readItem 102 = .ok (.aload_n 0, 1) := by decide +kernel
theorem dX7_readItem_103 : decode cX7_readItem 103 = .ok (.getfield 15, 3) := by decide +kernel
theorem dX7_readItem_106 : decode cX7_readItem 106 = .ok (.iconst 1, 1) := by decide +kernel
theorem dX7_readItem_107 : decode cX7_readItem 107 = .ok (.iaload, 1) := by decide +kernel
theorem dX7_readItem_108 : decode cX7_readItem 108 = .ok (.aload_n 0, 1) := by decide +kernel
theorem dX7_readItem_109 : decode cX7_readItem 109 = .ok (.getfield 15, 3) := by decide +kernel
theorem dX7_readItem_112 : decode cX7_readItem 112 = .ok (.iconst 2, 1) := by decide +kernel
theorem dX7_readItem_113 : decode cX7_readItem 113 = .ok (.iaload, 1) := by decide +kernel
theorem dX7_readItem_114 : decode cX7_readItem 114 = .ok (.invokevirtual 47, 3) := by decide +kernel
theorem dX7_readItem_117 : decode cX7_readItem 117 = .ok (.ireturn, 1) := by decide +kernel
theorem dX7_numbersOf_0 : decode cX7_numbersOf 0 = .ok (.iload_n 0, 1) := by decide +kernel
theorem dX7_numbersOf_1 : decode cX7_numbersOf 1 = .ok (.bipush 104, 2) := by decide +kernel
theorem dX7_numbersOf_3 : decode cX7_numbersOf 3 = .ok (.if_icmp .ne 5, 3) := by decide +kernel
theorem dX7_numbersOf_6 : decode cX7_numbersOf 6 = .ok (.iconst 3, 1) := by decide +kernel
theorem dX7_numbersOf_7 : decode cX7_numbersOf 7 = .ok (.ireturn, 1) := by decide +kernel
theorem dX7_numbersOf_8 : decode cX7_numbersOf 8 = .ok (.iload_n 0, 1) := by decide +kernel
theorem dX7_numbersOf_9 : decode cX7_numbersOf 9 = .ok (.bipush 114, 2) := by decide +kernel
theorem dX7_numbersOf_11 : decode cX7_numbersOf 11 = .ok (.if_icmp .eq 9, 3) := by decide +kernel
theorem dX7_numbersOf_14 : decode cX7_numbersOf 14 = .ok (.iload_n 0, 1) := by decide +kernel
theorem dX7_numbersOf_15 : decode cX7_numbersOf 15 = .ok (.bipush 112, 2) := by decide +kernel
theorem dX7_numbersOf_17 : decode cX7_numbersOf 17 = .ok (.if_icmp .ne 5, 3) := by decide +kernel
theorem dX7_numbersOf_20 : decode cX7_numbersOf 20 = .ok (.iconst 2, 1) := by decide +kernel
theorem dX7_numbersOf_21 : decode cX7_numbersOf 21 = .ok (.ireturn, 1) := by decide +kernel
theorem dX7_numbersOf_22 : decode cX7_numbersOf 22 = .ok (.iload_n 0, 1) := by decide +kernel
theorem dX7_numbersOf_23 : decode cX7_numbersOf 23 = .ok (.bipush 105, 2) := by decide +kernel
theorem dX7_numbersOf_25 : decode cX7_numbersOf 25 = .ok (.if_icmp .ne 7, 3) := by decide +kernel
theorem dX7_numbersOf_28 : decode cX7_numbersOf 28 = .ok (.iconst 1, 1) := by decide +kernel
theorem dX7_numbersOf_29 : decode cX7_numbersOf 29 = .ok (.goto 4, 3) := by decide +kernel
theorem dX7_numbersOf_32 : decode cX7_numbersOf 32 = .ok (.iconst 0, 1) := by decide +kernel
theorem dX7_numbersOf_33 : decode cX7_numbersOf 33 = .ok (.ireturn, 1) := by decide +kernel
set_option maxRecDepth 20000 in
theorem ggX7_readNumber_X7_letterHere : GoodIn wsX7_readNumber wsX7_letterHere := goodIn_r _ [10, 5, 11, 12, 16, 17, 18, 19] (by decide +kernel) (by decide +kernel)
set_option maxRecDepth 20000 in
theorem gX7_readNumber_X7_letterHere : GoodIn wsX7_readNumber (wsV RX7 35 RX7 yX7_letterHere wsX7_letterHere) := goodIn_app (goodIn_of _ (by decide +kernel)) ggX7_readNumber_X7_letterHere
set_option maxRecDepth 20000 in
theorem ggX7_readNumber_X7_isFigure : GoodIn wsX7_readNumber wsX7_isFigure := goodIn_r _ [15] (by decide +kernel) (by decide +kernel)
set_option maxRecDepth 20000 in
theorem gX7_readNumber_X7_isFigure : GoodIn wsX7_readNumber (va_wsS RX7 51 yX7_isFigure wsX7_isFigure) := goodIn_app (goodIn_of _ (by decide +kernel)) ggX7_readNumber_X7_isFigure
theorem dX7_readNumber_0 : decode cX7_readNumber 0 = .ok (.bipush (-4), 2) := by decide +kernel
theorem dX7_readNumber_2 : decode cX7_readNumber 2 = .ok (.istore_n 1, 1) := by decide +kernel
theorem dX7_readNumber_3 : decode cX7_readNumber 3 = .ok (.iconst 0, 1) := by decide +kernel
theorem dX7_readNumber_4 : decode cX7_readNumber 4 = .ok (.istore_n 2, 1) := by decide +kernel
theorem dX7_readNumber_5 : decode cX7_readNumber 5 = .ok (.iload_n 2, 1) := by decide +kernel
theorem dX7_readNumber_6 : decode cX7_readNumber 6 = .ok (.iconst 3, 1) := by decide +kernel
theorem dX7_readNumber_7 : decode cX7_readNumber 7 = .ok (.if_icmp .ge 46, 3) := by decide +kernel
theorem dX7_readNumber_10 : decode cX7_readNumber 10 = .ok (.aload_n 0, 1) := by decide +kernel
theorem dX7_readNumber_11 : decode cX7_readNumber 11 = .ok (.invokevirtual 35, 3) := by decide +kernel
theorem dX7_readNumber_14 : decode cX7_readNumber 14 = .ok (.invokestatic 51, 3) := by decide +kernel
theorem dX7_readNumber_17 : decode cX7_readNumber 17 = .ok (.ifCond .eq 36, 3) := by decide +kernel
theorem dX7_readNumber_20 : decode cX7_readNumber 20 = .ok (.iload_n 1, 1) := by decide +kernel
theorem dX7_readNumber_21 : decode cX7_readNumber 21 = .ok (.iconst 0, 1) := by decide +kernel
theorem dX7_readNumber_22 : decode cX7_readNumber 22 = .ok (.invokestatic 55, 3) := by decide +kernel
theorem dX7_readNumber_25 : decode cX7_readNumber 25 = .ok (.bipush 10, 2) := by decide +kernel
theorem dX7_readNumber_27 : decode cX7_readNumber 27 = .ok (.imul, 1) := by decide +kernel
theorem dX7_readNumber_28 : decode cX7_readNumber 28 = .ok (.aload_n 0, 1) := by decide +kernel
theorem dX7_readNumber_29 : decode cX7_readNumber 29 = .ok (.invokevirtual 35, 3) := by decide +kernel
theorem dX7_readNumber_32 : decode cX7_readNumber 32 = .ok (.bipush 48, 2) := by decide +kernel
theorem dX7_readNumber_34 : decode cX7_readNumber 34 = .ok (.isub, 1) := by decide +kernel
theorem dX7_readNumber_35 : decode cX7_readNumber 35 = .ok (.iadd, 1) := by decide +kernel
theorem dX7_readNumber_36 : decode cX7_readNumber 36 = .ok (.istore_n 1, 1) := by decide +kernel
theorem dX7_readNumber_37 : decode cX7_readNumber 37 = .ok (.aload_n 0, 1) := by decide +kernel
theorem dX7_readNumber_38 : decode cX7_readNumber 38 = .ok (.dup, 1) := by decide +kernel
theorem dX7_readNumber_39 : decode cX7_readNumber 39 = .ok (.getfield 28, 3) := by decide +kernel
theorem dX7_readNumber_42 : decode cX7_readNumber 42 = .ok (.iconst 1, 1) := by decide +kernel
theorem dX7_readNumber_43 : decode cX7_readNumber 43 = .ok (.iadd, 1) := by decide +kernel
theorem dX7_readNumber_44 : decode cX7_readNumber 44 = .ok (.putfield 28, 3) := by decide +kernel
theorem dX7_readNumber_47 : decode cX7_readNumber 47 = .ok (.iinc 2 1, 3) := by decide +kernel
theorem dX7_readNumber_50 : decode cX7_readNumber 50 = .ok (.goto (-45), 3) := by decide +kernel
theorem dX7_readNumber_53 : decode cX7_readNumber 53 = .ok (.iload_n 1, 1) := by decide +kernel
theorem dX7_readNumber_54 : decode cX7_readNumber 54 = .ok (.ireturn, 1) := by decide +kernel
theorem dX7_isFigure_0 : decode cX7_isFigure 0 = .ok (.iload_n 0, 1) := by decide +kernel
theorem dX7_isFigure_1 : decode cX7_isFigure 1 = .ok (.bipush 48, 2) := by decide +kernel
theorem dX7_isFigure_3 : decode cX7_isFigure 3 = .ok (.if_icmp .lt 13, 3) := by decide +kernel
theorem dX7_isFigure_6 : decode cX7_isFigure 6 = .ok (.iload_n 0, 1) := by decide +kernel
theorem dX7_isFigure_7 : decode cX7_isFigure 7 = .ok (.bipush 57, 2) := by decide +kernel
theorem dX7_isFigure_9 : decode cX7_isFigure 9 = .ok (.if_icmp .gt 7, 3) := by decide +kernel
theorem dX7_isFigure_12 : decode cX7_isFigure 12 = .ok (.iconst 1, 1) := by decide +kernel
theorem dX7_isFigure_13 : decode cX7_isFigure 13 = .ok (.goto 4, 3) := by decide +kernel
theorem dX7_isFigure_16 : decode cX7_isFigure 16 = .ok (.iconst 0, 1) := by decide +kernel
theorem dX7_isFigure_17 : decode cX7_isFigure 17 = .ok (.ireturn, 1) := by decide +kernel
theorem dX7_letterHere_0 : decode cX7_letterHere 0 = .ok (.aload_n 0, 1) := by decide +kernel
theorem dX7_letterHere_1 : decode cX7_letterHere 1 = .ok (.getfield 28, 3) := by decide +kernel
theorem dX7_letterHere_4 : decode cX7_letterHere 4 = .ok (.aload_n 0, 1) := by decide +kernel
theorem dX7_letterHere_5 : decode cX7_letterHere 5 = .ok (.getfield 19, 3) := by decide +kernel
theorem dX7_letterHere_8 : decode cX7_letterHere 8 = .ok (.if_icmp .ge 15, 3) := by decide +kernel
theorem dX7_letterHere_11 : decode cX7_letterHere 11 = .ok (.aload_n 0, 1) := by decide +kernel
theorem dX7_letterHere_12 : decode cX7_letterHere 12 = .ok (.getfield 9, 3) := by decide +kernel
theorem dX7_letterHere_15 : decode cX7_letterHere 15 = .ok (.aload_n 0, 1) := by decide +kernel
theorem dX7_letterHere_16 : decode cX7_letterHere 16 = .ok (.getfield 28, 3) := by decide +kernel
theorem dX7_letterHere_19 : decode cX7_letterHere 19 = .ok (.caload, 1) := by decide +kernel
theorem dX7_letterHere_20 : decode cX7_letterHere 20 = .ok (.goto 5, 3) := by decide +kernel
theorem dX7_letterHere_23 : decode cX7_letterHere 23 = .ok (.bipush 32, 2) := by decide +kernel
theorem dX7_letterHere_25 : decode cX7_letterHere 25 = .ok (.ireturn, 1) := by decide +kernel
set_option maxRecDepth 20000 in
theorem ggX8_init_X7_init : GoodIn wsX8_init wsX7_init := goodIn_r _ [34, 35, 2, 3, 36, 37, 38, 39, 220, 221, 222, 223] (by decide +kernel) (by decide +kernel)
set_option maxRecDepth 20000 in
theorem gX8_init_X7_init_n9 : GoodIn wsX8_init (wsX7_init) := ggX8_init_X7_init
set_option maxRecDepth 20000 in
theorem ggX8_init_X5_init : GoodIn wsX8_init wsX5_init := goodIn_r _ [41, 42, 2, 3, 38, 43, 44, 45, 232, 233, 234, 235, 236, 237, 238, 239, 240] (by decide +kernel) (by decide +kernel)
set_option maxRecDepth 20000 in
theorem gX8_init_X5_init_n18 : GoodIn wsX8_init (wsX5_init) := ggX8_init_X5_init
set_option maxRecDepth 20000 in
theorem ggX8_init_X4_init : GoodIn wsX8_init wsX4_init := goodIn_r _ [48, 49, 2, 3, 38, 50, 51, 241, 242] (by decide +kernel) (by decide +kernel)
set_option maxRecDepth 20000 in
theorem gX8_init_X4_init : GoodIn wsX8_init (wsX4_init) := ggX8_init_X4_init
set_option maxRecDepth 20000 in
theorem ggX8_init_X6_init : GoodIn wsX8_init wsX6_init := goodIn_r _ [54, 55, 2, 3, 38, 56, 57, 58, 30, 31, 59, 60, 61, 62, 63, 64, 65, 66, 243, 244, 245, 246, 247, 260, 261, 262, 263, 264, 265, 266, 267, 268] (by decide +kernel) (by decide +kernel)
set_option maxRecDepth 20000 in
theorem gX8_init_X6_init : GoodIn wsX8_init (wsX6_init) := ggX8_init_X6_init
set_option maxRecDepth 20000 in
theorem ggX8_init_X0_init : GoodIn wsX8_init wsX0_init := goodIn_r _ [69, 70, 2, 3, 38, 71, 72, 30, 31, 73, 74, 75, 76, 77, 78, 62, 63, 64, 65, 66, 248, 249, 250, 251, 252, 253, 254, 255, 256, 257, 260, 261, 262, 263, 264, 265, 266, 267, 268] (by decide +kernel) (by decide +kernel)
set_option maxRecDepth 20000 in
theorem gX8_init_X0_init : GoodIn wsX8_init (wsX0_init) := ggX8_init_X0_init
set_option maxRecDepth 20000 in
theorem ggX8_init_X2_init : GoodIn wsX8_init wsX2_init := goodIn_r _ [80, 81, 2, 3, 82, 83, 258, 259] (by decide +kernel) (by decide +kernel)
set_option maxRecDepth 20000 in
theorem gX8_init_X2_init_n53 : GoodIn wsX8_init (wsX2_init) := ggX8_init_X2_init
set_option maxRecDepth 20000 in
theorem ggX8_init_X3_init : GoodIn wsX8_init wsX3_init := goodIn_r _ [63, 64, 2, 3, 38, 65, 66, 260, 261, 262, 263, 264, 265, 266, 267, 268] (by decide +kernel) (by decide +kernel)
set_option maxRecDepth 20000 in
theorem gX8_init_X3_init_n60 : GoodIn wsX8_init (wsX3_init) := ggX8_init_X3_init
set_option maxRecDepth 20000 in
theorem ggX8_init_J0_length_8abf5 : GoodIn wsX8_init wsJ0_length_8abf5 := goodIn_r _ [88, 89, 90, 91, 92, 87, 93, 94, 95] (by decide +kernel) (by decide +kernel)
set_option maxRecDepth 20000 in
theorem gX8_init_J0_length_8abf5 : GoodIn wsX8_init (wsV RX8 67 RJ0 yJ0_length_8abf5 wsJ0_length_8abf5) := goodIn_app (goodIn_of _ (by decide +kernel)) ggX8_init_J0_length_8abf5
set_option maxRecDepth 20000 in
theorem ggX8_init_J0_charAt_5068e : GoodIn wsX8_init wsJ0_charAt_5068e := goodIn_r _ [99, 89, 100, 101, 102, 87, 103, 94, 95, 104, 105, 106, 107, 108, 109, 110, 111, 112, 113, 114, 115, 116, 117, 118, 119, 120, 121, 122, 123, 124, 125, 126, 127, 128, 129, 130, 131, 132] (by decide +kernel) (by decide +kernel)
set_option maxRecDepth 20000 in
theorem gX8_init_J0_charAt_5068e : GoodIn wsX8_init (wsV RX8 73 RJ0 yJ0_charAt_5068e wsJ0_charAt_5068e) := goodIn_app (goodIn_of _ (by decide +kernel)) ggX8_init_J0_charAt_5068e
set_option maxRecDepth 20000 in
theorem ggX8_init_X7_append : GoodIn wsX8_init wsX7_append := goodIn_r _ [136, 137, 37, 220, 221, 222, 223] (by decide +kernel) (by decide +kernel)
set_option maxRecDepth 20000 in
theorem gX8_init_X7_append : GoodIn wsX8_init (wsV RX8 77 RX7 yX7_append wsX7_append) := goodIn_app (goodIn_of _ (by decide +kernel)) ggX8_init_X7_append
set_option maxRecDepth 20000 in
theorem ggX8_init_X7_readInto : GoodIn wsX8_init wsX7_readInto := goodIn_r _ [141, 142, 137, 143, 144, 145, 10, 146, 147, 148, 149, 150, 151, 152, 153, 154, 155, 6, 156, 39, 157, 158, 159, 160, 37, 161, 162, 163, 164, 165, 166, 167, 168, 169, 170, 171, 172, 173, 174, 175, 176, 177, 178, 179, 180, 181, 182, 43, 44, 45, 183, 184, 185, 186, 187, 188, 189, 190, 191, 192, 193, 194, 195, 196, 197, 198, 199, 200, 201, 202, 203, 204, 205, 220, 221, 222, 223, 232, 233, 234, 235, 236, 237, 238, 239, 240] (by decide +kernel) (by decide +kernel)
set_option maxRecDepth 20000 in
theorem gX8_init_X7_readInto : GoodIn wsX8_init (wsV RX8 81 RX7 yX7_readInto wsX7_readInto) := goodIn_app (goodIn_of _ (by decide +kernel)) ggX8_init_X7_readInto
set_option maxRecDepth 20000 in
theorem ggX8_init_X7_clear : GoodIn wsX8_init wsX7_clear := goodIn_r _ [209, 137, 220, 221, 222, 223] (by decide +kernel) (by decide +kernel)
set_option maxRecDepth 20000 in
theorem gX8_init_X7_clear : GoodIn wsX8_init (wsV RX8 85 RX7 yX7_clear wsX7_clear) := goodIn_app (goodIn_of _ (by decide +kernel)) ggX8_init_X7_clear
set_option maxRecDepth 20000 in
theorem ggX8_init_X6_begin : GoodIn wsX8_init wsX6_begin := goodIn_r _ [213, 60, 214, 56, 215, 216, 217, 218, 219, 243, 244, 245, 246, 247, 232, 233, 234, 235, 236, 237, 238, 239, 240] (by decide +kernel) (by decide +kernel)
set_option maxRecDepth 20000 in
theorem gX8_init_X6_begin : GoodIn wsX8_init (wsV RX8 88 RX6 yX6_begin wsX6_begin) := goodIn_app (goodIn_of _ (by decide +kernel)) ggX8_init_X6_begin
theorem dX8_init_0 : decode cX8_init 0 = .ok (.aload_n 0, 1) := by decide +kernel
theorem dX8_init_1 : decode cX8_init 1 = .ok (.invokespecial 1, 3) := by decide +kernel
theorem dX8_init_4 : decode cX8_init 4 = .ok (.aload_n 0, 1) := by decide +kernel
theorem dX8_init_5 : decode cX8_init 5 = .ok (.new 7, 3) := by decide +kernel
theorem dX8_init_8 : decode cX8_init 8 = .ok (.dup, 1) := by decide +kernel
theorem dX8_init_9 : decode cX8_init 9 = .ok (.invokespecial 9, 3) := by decide +kernel
theorem dX8_init_12 : decode cX8_init 12 = .ok (.putfield 10, 3) := by decide +kernel
theorem dX8_init_15 : decode cX8_init 15 = .ok (.aload_n 0, 1) := by decide +kernel
theorem dX8_init_16 : decode cX8_init 16 = .ok (.new 16, 3) := by decide +kernel
theorem dX8_init_19 : decode cX8_init 19 = .ok (.dup, 1) := by decide +kernel
theorem dX8_init_20 : decode cX8_init 20 = .ok (.invokespecial 18, 3) := by decide +kernel
theorem dX8_init_23 : decode cX8_init 23 = .ok (.putfield 19, 3) := by decide +kernel
theorem dX8_init_26 : decode cX8_init 26 = .ok (.aload_n 0, 1) := by decide +kernel
theorem dX8_init_27 : decode cX8_init 27 = .ok (.new 16, 3) := by decide +kernel
theorem dX8_init_30 : decode cX8_init 30 = .ok (.dup, 1) := by decide +kernel
theorem dX8_init_31 : decode cX8_init 31 = .ok (.invokespecial 18, 3) := by decide +kernel
theorem dX8_init_34 : decode cX8_init 34 = .ok (.putfield 23, 3) := by decide +kernel
theorem dX8_init_37 : decode cX8_init 37 = .ok (.aload_n 0, 1) := by decide +kernel
theorem dX8_init_38 : decode cX8_init 38 = .ok (.new 26, 3) := by decide +kernel
theorem dX8_init_41 : decode cX8_init 41 = .ok (.dup, 1) := by decide +kernel
theorem dX8_init_42 : decode cX8_init 42 = .ok (.aload_n 0, 1) := by decide +kernel
theorem dX8_init_43 : decode cX8_init 43 = .ok (.getfield 19, 3) := by decide +kernel
theorem dX8_init_46 : decode cX8_init 46 = .ok (.invokespecial 28, 3) := by decide +kernel
theorem dX8_init_49 : decode cX8_init 49 = .ok (.putfield 31, 3) := by decide +kernel
theorem dX8_init_52 : decode cX8_init 52 = .ok (.aload_n 0, 1) := by decide +kernel
theorem dX8_init_53 : decode cX8_init 53 = .ok (.new 35, 3) := by decide +kernel
theorem dX8_init_56 : decode cX8_init 56 = .ok (.dup, 1) := by decide +kernel
theorem dX8_init_57 : decode cX8_init 57 = .ok (.aload_n 0, 1) := by decide +kernel
theorem dX8_init_58 : decode cX8_init 58 = .ok (.getfield 19, 3) := by decide +kernel
theorem dX8_init_61 : decode cX8_init 61 = .ok (.invokespecial 37, 3) := by decide +kernel
theorem dX8_init_64 : decode cX8_init 64 = .ok (.putfield 38, 3) := by decide +kernel
theorem dX8_init_67 : decode cX8_init 67 = .ok (.aload_n 0, 1) := by decide +kernel
theorem dX8_init_68 : decode cX8_init 68 = .ok (.new 42, 3) := by decide +kernel
theorem dX8_init_71 : decode cX8_init 71 = .ok (.dup, 1) := by decide +kernel
theorem dX8_init_72 : decode cX8_init 72 = .ok (.aload_n 0, 1) := by decide +kernel
theorem dX8_init_73 : decode cX8_init 73 = .ok (.getfield 19, 3) := by decide +kernel
theorem dX8_init_76 : decode cX8_init 76 = .ok (.aload_n 0, 1) := by decide +kernel
theorem dX8_init_77 : decode cX8_init 77 = .ok (.getfield 31, 3) := by decide +kernel
theorem dX8_init_80 : decode cX8_init 80 = .ok (.aload_n 0, 1) := by decide +kernel
theorem dX8_init_81 : decode cX8_init 81 = .ok (.getfield 38, 3) := by decide +kernel
theorem dX8_init_84 : decode cX8_init 84 = .ok (.invokespecial 44, 3) := by decide +kernel
theorem dX8_init_87 : decode cX8_init 87 = .ok (.putfield 47, 3) := by decide +kernel
theorem dX8_init_90 : decode cX8_init 90 = .ok (.aload_n 0, 1) := by decide +kernel
theorem dX8_init_91 : decode cX8_init 91 = .ok (.new 51, 3) := by decide +kernel
theorem dX8_init_94 : decode cX8_init 94 = .ok (.dup, 1) := by decide +kernel
theorem dX8_init_95 : decode cX8_init 95 = .ok (.invokespecial 53, 3) := by decide +kernel
theorem dX8_init_98 : decode cX8_init 98 = .ok (.putfield 54, 3) := by decide +kernel
theorem dX8_init_101 : decode cX8_init 101 = .ok (.aload_n 0, 1) := by decide +kernel
theorem dX8_init_102 : decode cX8_init 102 = .ok (.new 58, 3) := by decide +kernel
theorem dX8_init_105 : decode cX8_init 105 = .ok (.dup, 1) := by decide +kernel
theorem dX8_init_106 : decode cX8_init 106 = .ok (.invokespecial 60, 3) := by decide +kernel
theorem dX8_init_109 : decode cX8_init 109 = .ok (.putfield 61, 3) := by decide +kernel
theorem dX8_init_112 : decode cX8_init 112 = .ok (.iconst 0, 1) := by decide +kernel
theorem dX8_init_113 : decode cX8_init 113 = .ok (.istore_n 1, 1) := by decide +kernel
theorem dX8_init_114 : decode cX8_init 114 = .ok (.iload_n 1, 1) := by decide +kernel
theorem dX8_init_115 : decode cX8_init 115 = .ok (.ldc 65, 2) := by decide +kernel
theorem dX8_init_117 : decode cX8_init 117 = .ok (.invokevirtual 67, 3) := by decide +kernel
theorem dX8_init_120 : decode cX8_init 120 = .ok (.if_icmp .ge 23, 3) := by decide +kernel
theorem dX8_init_123 : decode cX8_init 123 = .ok (.aload_n 0, 1) := by decide +kernel
