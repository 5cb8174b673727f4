theorem dX8_init_124 : decode cX8_init 124 = .ok (.getfield 10, 3) := by decide +kernel
theorem dX8_init_127 : decode cX8_init 127 = .ok (.ldc 65, 2) := by decide +kernel
theorem dX8_init_129 : decode cX8_init 129 = .ok (.iload_n 1, 1) := by decide +kernel
theorem dX8_init_130 : decode cX8_init 130 = .ok (.invokevirtual 73, 3) := by decide +kernel
theorem dX8_init_133 : decode cX8_init 133 = .ok (.invokevirtual 77, 3) := by decide +kernel
theorem dX8_init_136 : decode cX8_init 136 = .ok (.pop, 1) := by decide +kernel
theorem dX8_init_137 : decode cX8_init 137 = .ok (.iinc 1 1, 3) := by decide +kernel
theorem dX8_init_140 : decode cX8_init 140 = .ok (.goto (-26), 3) := by decide +kernel
theorem dX8_init_143 : decode cX8_init 143 = .ok (.aload_n 0, 1) := by decide +kernel
theorem dX8_init_144 : decode cX8_init 144 = .ok (.getfield 10, 3) := by decide +kernel
theorem dX8_init_147 : decode cX8_init 147 = .ok (.aload_n 0, 1) := by decide +kernel
theorem dX8_init_148 : decode cX8_init 148 = .ok (.getfield 19, 3) := by decide +kernel
theorem dX8_init_151 : decode cX8_init 151 = .ok (.invokevirtual 81, 3) := by decide +kernel
theorem dX8_init_154 : decode cX8_init 154 = .ok (.pop, 1) := by decide +kernel
theorem dX8_init_155 : decode cX8_init 155 = .ok (.aload_n 0, 1) := by decide +kernel
theorem dX8_init_156 : decode cX8_init 156 = .ok (.getfield 10, 3) := by decide +kernel
theorem dX8_init_159 : decode cX8_init 159 = .ok (.invokevirtual 85, 3) := by decide +kernel
theorem dX8_init_162 : decode cX8_init 162 = .ok (.aload_n 0, 1) := by decide +kernel
theorem dX8_init_163 : decode cX8_init 163 = .ok (.getfield 38, 3) := by decide +kernel
theorem dX8_init_166 : decode cX8_init 166 = .ok (.invokevirtual 88, 3) := by decide +kernel
theorem dX8_init_169 : decode cX8_init 169 = .ok (.return_, 1) := by decide +kernel
set_option maxRecDepth 20000 in
theorem ggX8_write_X8_isWithin : GoodIn wsX8_write wsX8_isWithin := goodIn_r _ [6] (by decide +kernel) (by decide +kernel)
set_option maxRecDepth 20000 in
theorem gX8_write_X8_isWithin : GoodIn wsX8_write (va_wsS RX8 91 yX8_isWithin wsX8_isWithin) := goodIn_app (goodIn_of _ (by decide +kernel)) ggX8_write_X8_isWithin
set_option maxRecDepth 20000 in
theorem ggX8_write_X7_append : GoodIn wsX8_write wsX7_append := goodIn_r _ [11, 12, 13, 22, 23, 24, 25] (by decide +kernel) (by decide +kernel)
set_option maxRecDepth 20000 in
theorem gX8_write_X7_append : GoodIn wsX8_write (wsV RX8 77 RX7 yX7_append wsX7_append) := goodIn_app (goodIn_of _ (by decide +kernel)) ggX8_write_X7_append
theorem dX8_write_0 : decode cX8_write 0 = .ok (.iload_n 1, 1) := by decide +kernel
theorem dX8_write_1 : decode cX8_write 1 = .ok (.bipush 32, 2) := by decide +kernel
theorem dX8_write_3 : decode cX8_write 3 = .ok (.bipush 126, 2) := by decide +kernel
theorem dX8_write_5 : decode cX8_write 5 = .ok (.invokestatic 91, 3) := by decide +kernel
theorem dX8_write_8 : decode cX8_write 8 = .ok (.ifCond .ne 5, 3) := by decide +kernel
theorem dX8_write_11 : decode cX8_write 11 = .ok (.iconst (-1), 1) := by decide +kernel
theorem dX8_write_12 : decode cX8_write 12 = .ok (.ireturn, 1) := by decide +kernel
theorem dX8_write_13 : decode cX8_write 13 = .ok (.aload_n 0, 1) := by decide +kernel
theorem dX8_write_14 : decode cX8_write 14 = .ok (.getfield 10, 3) := by decide +kernel
theorem dX8_write_17 : decode cX8_write 17 = .ok (.iload_n 1, 1) := by decide +kernel
theorem dX8_write_18 : decode cX8_write 18 = .ok (.i2c, 1) := by decide +kernel
theorem dX8_write_19 : decode cX8_write 19 = .ok (.invokevirtual 77, 3) := by decide +kernel
theorem dX8_write_22 : decode cX8_write 22 = .ok (.ifCond .eq 13, 3) := by decide +kernel
theorem dX8_write_25 : decode cX8_write 25 = .ok (.aload_n 0, 1) := by decide +kernel
theorem dX8_write_26 : decode cX8_write 26 = .ok (.getfield 10, 3) := by decide +kernel
theorem dX8_write_29 : decode cX8_write 29 = .ok (.getfield 95, 3) := by decide +kernel
theorem dX8_write_32 : decode cX8_write 32 = .ok (.goto 5, 3) := by decide +kernel
theorem dX8_write_35 : decode cX8_write 35 = .ok (.bipush (-3), 2) := by decide +kernel
theorem dX8_write_37 : decode cX8_write 37 = .ok (.ireturn, 1) := by decide +kernel
set_option maxRecDepth 20000 in
theorem ggX8_wipe_X7_clear : GoodIn wsX8_wipe wsX7_clear := goodIn_r _ [7, 8, 17, 18, 19, 20] (by decide +kernel) (by decide +kernel)
set_option maxRecDepth 20000 in
theorem gX8_wipe_X7_clear : GoodIn wsX8_wipe (wsV RX8 85 RX7 yX7_clear wsX7_clear) := goodIn_app (goodIn_of _ (by decide +kernel)) ggX8_wipe_X7_clear
theorem dX8_wipe_0 : decode cX8_wipe 0 = .ok (.aload_n 0, 1) := by decide +kernel
theorem dX8_wipe_1 : decode cX8_wipe 1 = .ok (.getfield 10, 3) := by decide +kernel
theorem dX8_wipe_4 : decode cX8_wipe 4 = .ok (.getfield 95, 3) := by decide +kernel
theorem dX8_wipe_7 : decode cX8_wipe 7 = .ok (.istore_n 1, 1) := by decide +kernel
theorem dX8_wipe_8 : decode cX8_wipe 8 = .ok (.aload_n 0, 1) := by decide +kernel
theorem dX8_wipe_9 : decode cX8_wipe 9 = .ok (.getfield 10, 3) := by decide +kernel
theorem dX8_wipe_12 : decode cX8_wipe 12 = .ok (.invokevirtual 85, 3) := by decide +kernel
theorem dX8_wipe_15 : decode cX8_wipe 15 = .ok (.iload_n 1, 1) := by decide +kernel
theorem dX8_wipe_16 : decode cX8_wipe 16 = .ok (.ireturn, 1) := by decide +kernel
set_option maxRecDepth 20000 in
theorem ggX8_fault_X7_readInto : GoodIn wsX8_fault wsX7_readInto := goodIn_r _ [7, 8, 9, 10, 11, 12, 13, 14, 15, 16, 17, 18, 19, 20, 21, 22, 23, 6, 24, 25, 26, 27, 28, 29, 30, 31, 32, 33, 34, 35, 36, 37, 38, 39, 40, 41, 42, 43, 44, 45, 46, 47, 48, 49, 50, 51, 52, 53, 54, 55, 56, 57, 58, 59, 60, 61, 62, 63, 64, 65, 66, 67, 68, 69, 70, 71, 72, 73, 74, 75, 76, 77, 78, 87, 88, 89, 90, 91, 92, 93, 94, 95, 96, 97, 98, 99] (by decide +kernel) (by decide +kernel)
set_option maxRecDepth 20000 in
theorem gX8_fault_X7_readInto : GoodIn wsX8_fault (wsV RX8 81 RX7 yX7_readInto wsX7_readInto) := goodIn_app (goodIn_of _ (by decide +kernel)) ggX8_fault_X7_readInto
theorem dX8_fault_0 : decode cX8_fault 0 = .ok (.aload_n 0, 1) := by decide +kernel
theorem dX8_fault_1 : decode cX8_fault 1 = .ok (.getfield 10, 3) := by decide +kernel
theorem dX8_fault_4 : decode cX8_fault 4 = .ok (.aload_n 0, 1) := by decide +kernel
theorem dX8_fault_5 : decode cX8_fault 5 = .ok (.getfield 23, 3) := by decide +kernel
theorem dX8_fault_8 : decode cX8_fault 8 = .ok (.invokevirtual 81, 3) := by decide +kernel
theorem dX8_fault_11 : decode cX8_fault 11 = .ok (.ireturn, 1) := by decide +kernel
set_option maxRecDepth 20000 in
theorem ggX8_lay_X7_readInto : GoodIn wsX8_lay wsX7_readInto := goodIn_r _ [11, 12, 13, 14, 15, 16, 17, 18, 19, 20, 21, 22, 23, 24, 25, 26, 27, 10, 28, 29, 30, 31, 32, 33, 34, 35, 36, 37, 38, 39, 40, 41, 42, 43, 44, 45, 46, 47, 48, 49, 50, 51, 52, 53, 54, 55, 56, 57, 58, 59, 60, 61, 62, 63, 64, 65, 66, 67, 68, 69, 70, 71, 72, 73, 74, 75, 76, 77, 78, 79, 80, 81, 82, 124, 125, 126, 127, 115, 116, 117, 118, 119, 120, 121, 122, 123] (by decide +kernel) (by decide +kernel)
set_option maxRecDepth 20000 in
theorem gX8_lay_X7_readInto : GoodIn wsX8_lay (wsV RX8 81 RX7 yX7_readInto wsX7_readInto) := goodIn_app (goodIn_of _ (by decide +kernel)) ggX8_lay_X7_readInto
set_option maxRecDepth 20000 in
theorem ggX8_lay_X5_copy : GoodIn wsX8_lay wsX5_copy := goodIn_r _ [86, 57, 87, 88, 89, 90, 58, 59, 19, 20, 21, 22, 23, 24, 115, 116, 117, 118, 119, 120, 121, 122, 123] (by decide +kernel) (by decide +kernel)
set_option maxRecDepth 20000 in
theorem gX8_lay_X5_copy : GoodIn wsX8_lay (wsV RX8 102 RX5 yX5_copy wsX5_copy) := goodIn_app (goodIn_of _ (by decide +kernel)) ggX8_lay_X5_copy
set_option maxRecDepth 20000 in
theorem ggX8_lay_X6_begin : GoodIn wsX8_lay wsX6_begin := goodIn_r _ [95, 96, 97, 98, 99, 88, 89, 90, 100, 128, 129, 130, 131, 132, 115, 116, 117, 118, 119, 120, 121, 122, 123] (by decide +kernel) (by decide +kernel)
set_option maxRecDepth 20000 in
theorem gX8_lay_X6_begin : GoodIn wsX8_lay (wsV RX8 88 RX6 yX6_begin wsX6_begin) := goodIn_app (goodIn_of _ (by decide +kernel)) ggX8_lay_X6_begin
set_option maxRecDepth 20000 in
theorem ggX8_lay_X2_clear : GoodIn wsX8_lay wsX2_clear := goodIn_r _ [105, 106, 133, 134] (by decide +kernel) (by decide +kernel)
set_option maxRecDepth 20000 in
theorem gX8_lay_X2_clear : GoodIn wsX8_lay (wsV RX8 105 RX2 yX2_clear wsX2_clear) := goodIn_app (goodIn_of _ (by decide +kernel)) ggX8_lay_X2_clear
theorem dX8_lay_0 : decode cX8_lay 0 = .ok (.aload_n 0, 1) := by decide +kernel
theorem dX8_lay_1 : decode cX8_lay 1 = .ok (.getfield 10, 3) := by decide +kernel
theorem dX8_lay_4 : decode cX8_lay 4 = .ok (.aload_n 0, 1) := by decide +kernel
theorem dX8_lay_5 : decode cX8_lay 5 = .ok (.getfield 23, 3) := by decide +kernel
theorem dX8_lay_8 : decode cX8_lay 8 = .ok (.invokevirtual 81, 3) := by decide +kernel
theorem dX8_lay_11 : decode cX8_lay 11 = .ok (.bipush (-4), 2) := by decide +kernel
theorem dX8_lay_13 : decode cX8_lay 13 = .ok (.if_icmp .ne 13, 3) := by decide +kernel
theorem dX8_lay_16 : decode cX8_lay 16 = .ok (.aload_n 0, 1) := by decide +kernel
theorem dX8_lay_17 : decode cX8_lay 17 = .ok (.getfield 23, 3) := by decide +kernel
theorem dX8_lay_20 : decode cX8_lay 20 = .ok (.getfield 99, 3) := by decide +kernel
theorem dX8_lay_23 : decode cX8_lay 23 = .ok (.ifCond .ne 6, 3) := by decide +kernel
theorem dX8_lay_26 : decode cX8_lay 26 = .ok (.bipush (-2), 2) := by decide +kernel
theorem dX8_lay_28 : decode cX8_lay 28 = .ok (.ireturn, 1) := by decide +kernel
theorem dX8_lay_29 : decode cX8_lay 29 = .ok (.aload_n 0, 1) := by decide +kernel
theorem dX8_lay_30 : decode cX8_lay 30 = .ok (.getfield 19, 3) := by decide +kernel
theorem dX8_lay_33 : decode cX8_lay 33 = .ok (.aload_n 0, 1) := by decide +kernel
theorem dX8_lay_34 : decode cX8_lay 34 = .ok (.getfield 23, 3) := by decide +kernel
theorem dX8_lay_37 : decode cX8_lay 37 = .ok (.invokevirtual 102, 3) := by decide +kernel
theorem dX8_lay_40 : decode cX8_lay 40 = .ok (.aload_n 0, 1) := by decide +kernel
theorem dX8_lay_41 : decode cX8_lay 41 = .ok (.getfield 38, 3) := by decide +kernel
theorem dX8_lay_44 : decode cX8_lay 44 = .ok (.invokevirtual 88, 3) := by decide +kernel
theorem dX8_lay_47 : decode cX8_lay 47 = .ok (.aload_n 0, 1) := by decide +kernel
theorem dX8_lay_48 : decode cX8_lay 48 = .ok (.getfield 54, 3) := by decide +kernel
theorem dX8_lay_51 : decode cX8_lay 51 = .ok (.invokevirtual 105, 3) := by decide +kernel
theorem dX8_lay_54 : decode cX8_lay 54 = .ok (.aload_n 0, 1) := by decide +kernel
theorem dX8_lay_55 : decode cX8_lay 55 = .ok (.getfield 19, 3) := by decide +kernel
theorem dX8_lay_58 : decode cX8_lay 58 = .ok (.getfield 99, 3) := by decide +kernel
theorem dX8_lay_61 : decode cX8_lay 61 = .ok (.ireturn, 1) := by decide +kernel
set_option maxRecDepth 20000 in
theorem ggX8_course_X8_isWithin : GoodIn wsX8_course wsX8_isWithin := goodIn_r _ [14] (by decide +kernel) (by decide +kernel)
set_option maxRecDepth 20000 in
theorem gX8_course_X8_isWithin : GoodIn wsX8_course (va_wsS RX8 91 yX8_isWithin wsX8_isWithin) := goodIn_app (goodIn_of _ (by decide +kernel)) ggX8_course_X8_isWithin
set_option maxRecDepth 20000 in
theorem ggX8_course_X8_fillTrial : GoodIn wsX8_course wsX8_fillTrial := goodIn_r _ [18, 5, 19, 20, 1, 21, 22, 23, 24, 25, 26, 27, 28, 29, 30, 31, 32, 33, 34, 35, 36, 37, 38, 39, 40, 41, 42, 43, 44, 4, 45, 46, 47, 48, 49, 50, 51, 52, 53, 54, 55, 56, 57, 58, 59, 60, 61, 62, 63, 64, 65, 66, 67, 68, 69, 70, 71, 72, 73, 74, 75, 76, 77, 78, 79, 80, 81, 82, 83, 84, 85, 86, 87, 88, 89, 90, 91, 92, 93, 94, 95, 96, 97, 98, 99, 100, 101, 102, 103, 104, 105, 106, 107, 108, 109, 110, 111, 112, 113, 114, 115, 116, 117, 118, 119, 120, 121, 122, 123, 124, 125, 126, 127, 128, 129, 130, 131, 132, 167, 168, 169, 170, 171, 172, 173, 174, 175, 176, 177, 178, 179, 180, 181, 182, 183, 188, 189, 190, 191, 192, 193, 194, 195, 196, 197, 198, 199, 200, 201, 202, 203] (by decide +kernel) (by decide +kernel)
set_option maxRecDepth 20000 in
theorem gX8_course_X8_fillTrial : GoodIn wsX8_course (wsV RX8 106 RX8 yX8_fillTrial wsX8_fillTrial) := goodIn_app (goodIn_of _ (by decide +kernel)) ggX8_course_X8_fillTrial
set_option maxRecDepth 20000 in
theorem ggX8_course_X3_init : GoodIn wsX8_course wsX3_init := goodIn_r _ [134, 135, 136, 137, 138, 107, 91, 175, 176, 177, 178, 179, 180, 181, 182, 183] (by decide +kernel) (by decide +kernel)
set_option maxRecDepth 20000 in
theorem gX8_course_X3_init_n60 : GoodIn wsX8_course (wsX3_init) := ggX8_course_X3_init
set_option maxRecDepth 20000 in
theorem ggX8_course_X6_push : GoodIn wsX8_course wsX6_push := goodIn_r _ [142, 27, 28, 143, 144, 145, 25, 146, 147, 148, 149, 150, 151, 12, 13, 14, 188, 189, 190, 191, 192, 175, 176, 177, 178, 179, 180, 181, 182, 183] (by decide +kernel) (by decide +kernel)
set_option maxRecDepth 20000 in
theorem gX8_course_X6_push : GoodIn wsX8_course (wsV RX8 110 RX6 yX6_push wsX6_push) := goodIn_app (goodIn_of _ (by decide +kernel)) ggX8_course_X6_push
set_option maxRecDepth 20000 in
theorem ggX8_course_X1_init : GoodIn wsX8_course wsX1_init := goodIn_r _ [154, 155, 136, 137, 156, 157, 158, 159, 184, 185, 186, 187] (by decide +kernel) (by decide +kernel)
set_option maxRecDepth 20000 in
theorem gX8_course_X1_init : GoodIn wsX8_course (wsX1_init) := ggX8_course_X1_init
set_option maxRecDepth 20000 in
theorem ggX8_course_X2_add : GoodIn wsX8_course wsX2_add := goodIn_r _ [164, 165, 166, 204, 205] (by decide +kernel) (by decide +kernel)
set_option maxRecDepth 20000 in
theorem gX8_course_X2_add : GoodIn wsX8_course (wsV RX8 119 RX2 yX2_add wsX2_add) := goodIn_app (goodIn_of _ (by decide +kernel)) ggX8_course_X2_add
theorem dX8_course_0 : decode cX8_course 0 = .ok (.iload_n 1, 1) := by decide +kernel
theorem dX8_course_1 : decode cX8_course 1 = .ok (.bipush 20, 2) := by decide +kernel
theorem dX8_course_3 : decode cX8_course 3 = .ok (.bipush 60, 2) := by decide +kernel
theorem dX8_course_5 : decode cX8_course 5 = .ok (.invokestatic 91, 3) := by decide +kernel
theorem dX8_course_8 : decode cX8_course 8 = .ok (.ifCond .ne 5, 3) := by decide +kernel
theorem dX8_course_11 : decode cX8_course 11 = .ok (.iconst (-1), 1) := by decide +kernel
theorem dX8_course_12 : decode cX8_course 12 = .ok (.ireturn, 1) := by decide +kernel
theorem dX8_course_13 : decode cX8_course 13 = .ok (.aload_n 0, 1) := by decide +kernel
theorem dX8_course_14 : decode cX8_course 14 = .ok (.iload_n 1, 1) := by decide +kernel
theorem dX8_course_15 : decode cX8_course 15 = .ok (.invokevirtual 106, 3) := by decide +kernel
theorem dX8_course_18 : decode cX8_course 18 = .ok (.ifCond .ne 6, 3) := by decide +kernel
theorem dX8_course_21 : decode cX8_course 21 = .ok (.bipush (-2), 2) := by decide +kernel
theorem dX8_course_23 : decode cX8_course 23 = .ok (.ireturn, 1) := by decide +kernel
theorem dX8_course_24 : decode cX8_course 24 = .ok (.aload_n 0, 1) := by decide +kernel
theorem dX8_course_25 : decode cX8_course 25 = .ok (.getfield 61, 3) := by decide +kernel
theorem dX8_course_28 : decode cX8_course 28 = .ok (.astore_n 2, 1) := by decide +kernel
theorem dX8_course_29 : decode cX8_course 29 = .ok (.aload_n 0, 1) := by decide +kernel
theorem dX8_course_30 : decode cX8_course 30 = .ok (.new 58, 3) := by decide +kernel
theorem dX8_course_33 : decode cX8_course 33 = .ok (.dup, 1) := by decide +kernel
theorem dX8_course_34 : decode cX8_course 34 = .ok (.invokespecial 60, 3) := by decide +kernel
theorem dX8_course_37 : decode cX8_course 37 = .ok (.putfield 61, 3) := by decide +kernel
theorem dX8_course_40 : decode cX8_course 40 = .ok (.aload_n 0, 1) := by decide +kernel
theorem dX8_course_41 : decode cX8_course 41 = .ok (.getfield 38, 3) := by decide +kernel
theorem dX8_course_44 : decode cX8_course 44 = .ok (.aload_n 2, 1) := by decide +kernel
theorem dX8_course_45 : decode cX8_course 45 = .ok (.invokevirtual 110, 3) := by decide +kernel
theorem dX8_course_48 : decode cX8_course 48 = .ok (.aload_n 0, 1) := by decide +kernel
theorem dX8_course_49 : decode cX8_course 49 = .ok (.getfield 54, 3) := by decide +kernel
theorem dX8_course_52 : decode cX8_course 52 = .ok (.new 114, 3) := by decide +kernel
theorem dX8_course_55 : decode cX8_course 55 = .ok (.dup, 1) := by decide +kernel
theorem dX8_course_56 : decode cX8_course 56 = .ok (.iconst 0, 1) := by decide +kernel
theorem dX8_course_57 : decode cX8_course 57 = .ok (.aload_n 2, 1) := by decide +kernel
theorem dX8_course_58 : decode cX8_course 58 = .ok (.iconst 0, 1) := by decide +kernel
theorem dX8_course_59 : decode cX8_course 59 = .ok (.iconst 0, 1) := by decide +kernel
theorem dX8_course_60 : decode cX8_course 60 = .ok (.invokespecial 116, 3) := by decide +kernel
theorem dX8_course_63 : decode cX8_course 63 = .ok (.invokevirtual 119, 3) := by decide +kernel
theorem dX8_course_66 : decode cX8_course 66 = .ok (.aload_n 2, 1) := by decide +kernel
theorem dX8_course_67 : decode cX8_course 67 = .ok (.getfield 123, 3) := by decide +kernel
theorem dX8_course_70 : decode cX8_course 70 = .ok (.ireturn, 1) := by decide +kernel
set_option maxRecDepth 20000 in
theorem ggX8_up_X6_pop : GoodIn wsX8_up wsX6_pop := goodIn_r _ [11, 12, 13, 14, 15, 16, 10, 17, 18, 19, 20, 21, 22, 23, 24, 25, 26, 27, 28, 29, 30, 56, 57, 58, 59, 60, 65, 66, 67, 68, 69, 70, 71, 72, 73] (by decide +kernel) (by decide +kernel)
set_option maxRecDepth 20000 in
theorem gX8_up_X6_pop : GoodIn wsX8_up (wsV RX8 125 RX6 yX6_pop wsX6_pop) := goodIn_app (goodIn_of _ (by decide +kernel)) ggX8_up_X6_pop
set_option maxRecDepth 20000 in
theorem ggX8_up_X1_init : GoodIn wsX8_up wsX1_init := goodIn_r _ [33, 34, 35, 36, 37, 38, 39, 40, 61, 62, 63, 64] (by decide +kernel) (by decide +kernel)
set_option maxRecDepth 20000 in
theorem gX8_up_X1_init : GoodIn wsX8_up (wsX1_init) := ggX8_up_X1_init
set_option maxRecDepth 20000 in
theorem ggX8_up_X2_add : GoodIn wsX8_up wsX2_add := goodIn_r _ [45, 46, 47, 74, 75] (by decide +kernel) (by decide +kernel)
set_option maxRecDepth 20000 in
theorem gX8_up_X2_add : GoodIn wsX8_up (wsV RX8 119 RX2 yX2_add wsX2_add) := goodIn_app (goodIn_of _ (by decide +kernel)) ggX8_up_X2_add
theorem dX8_up_0 : decode cX8_up 0 = .ok (.aload_n 0, 1) := by decide +kernel
theorem dX8_up_1 : decode cX8_up 1 = .ok (.getfield 38, 3) := by decide +kernel
theorem dX8_up_4 : decode cX8_up 4 = .ok (.getfield 124, 3) := by decide +kernel
theorem dX8_up_7 : decode cX8_up 7 = .ok (.ifCond .ne 6, 3) := by decide +kernel
theorem dX8_up_10 : decode cX8_up 10 = .ok (.bipush (-2), 2) := by decide +kernel
theorem dX8_up_12 : decode cX8_up 12 = .ok (.ireturn, 1) := by decide +kernel
theorem dX8_up_13 : decode cX8_up 13 = .ok (.aload_n 0, 1) := by decide +kernel
theorem dX8_up_14 : decode cX8_up 14 = .ok (.getfield 38, 3) := by decide +kernel
theorem dX8_up_17 : decode cX8_up 17 = .ok (.invokevirtual 125, 3) := by decide +kernel
theorem dX8_up_20 : decode cX8_up 20 = .ok (.astore_n 1, 1) := by decide +kernel
theorem dX8_up_21 : decode cX8_up 21 = .ok (.aload_n 0, 1) := by decide +kernel
theorem dX8_up_22 : decode cX8_up 22 = .ok (.getfield 54, 3) := by decide +kernel
theorem dX8_up_25 : decode cX8_up 25 = .ok (.new 114, 3) := by decide +kernel
theorem dX8_up_28 : decode cX8_up 28 = .ok (.dup, 1) := by decide +kernel
theorem dX8_up_29 : decode cX8_up 29 = .ok (.iconst 1, 1) := by decide +kernel
theorem dX8_up_30 : decode cX8_up 30 = .ok (.aload_n 1, 1) := by decide +kernel
theorem dX8_up_31 : decode cX8_up 31 = .ok (.iconst 0, 1) := by decide +kernel
theorem dX8_up_32 : decode cX8_up 32 = .ok (.iconst 0, 1) := by decide +kernel
theorem dX8_up_33 : decode cX8_up 33 = .ok (.invokespecial 116, 3) := by decide +kernel
theorem dX8_up_36 : decode cX8_up 36 = .ok (.invokevirtual 119, 3) := by decide +kernel
theorem dX8_up_39 : decode cX8_up 39 = .ok (.aload_n 0, 1) := by decide +kernel
theorem dX8_up_40 : decode cX8_up 40 = .ok (.getfield 38, 3) := by decide +kernel
theorem dX8_up_43 : decode cX8_up 43 = .ok (.getfield 124, 3) := by decide +kernel
theorem dX8_up_46 : decode cX8_up 46 = .ok (.ireturn, 1) := by decide +kernel
set_option maxRecDepth 20000 in
theorem ggX8_bring_X8_isHeap : GoodIn wsX8_bring wsX8_isHeap := goodIn_r _ [12, 13, 14, 15, 16, 11, 17, 39, 40, 41, 42, 43, 44, 45, 46, 56, 57, 58, 59, 60, 61, 62, 63, 64] (by decide +kernel) (by decide +kernel)
set_option maxRecDepth 20000 in
theorem gX8_bring_X8_isHeap : GoodIn wsX8_bring (wsV RX8 129 RX8 yX8_isHeap wsX8_isHeap) := goodIn_app (goodIn_of _ (by decide +kernel)) ggX8_bring_X8_isHeap
set_option maxRecDepth 20000 in
theorem ggX8_bring_X8_isWithin : GoodIn wsX8_bring wsX8_isWithin := goodIn_r _ [17] (by decide +kernel) (by decide +kernel)
set_option maxRecDepth 20000 in
theorem gX8_bring_X8_isWithin : GoodIn wsX8_bring (va_wsS RX8 91 yX8_isWithin wsX8_isWithin) := goodIn_app (goodIn_of _ (by decide +kernel)) ggX8_bring_X8_isWithin
set_option maxRecDepth 20000 in
theorem ggX8_bring_X6_addTo : GoodIn wsX8_bring wsX6_addTo := goodIn_r _ [21, 16, 11, 17] (by decide +kernel) (by decide +kernel)
set_option maxRecDepth 20000 in
theorem gX8_bring_X6_addTo : GoodIn wsX8_bring (va_wsS RX8 136 yX6_addTo wsX6_addTo) := goodIn_app (goodIn_of _ (by decide +kernel)) ggX8_bring_X6_addTo
set_option maxRecDepth 20000 in
theorem ggX8_bring_X1_init : GoodIn wsX8_bring wsX1_init := goodIn_r _ [24, 25, 26, 27, 28, 29, 30, 31, 52, 53, 54, 55] (by decide +kernel) (by decide +kernel)
set_option maxRecDepth 20000 in
theorem gX8_bring_X1_init : GoodIn wsX8_bring (wsX1_init) := ggX8_bring_X1_init
set_option maxRecDepth 20000 in
theorem ggX8_bring_X2_add : GoodIn wsX8_bring wsX2_add := goodIn_r _ [36, 37, 38, 65, 66] (by decide +kernel) (by decide +kernel)
set_option maxRecDepth 20000 in
theorem gX8_bring_X2_add : GoodIn wsX8_bring (wsV RX8 119 RX2 yX2_add wsX2_add) := goodIn_app (goodIn_of _ (by decide +kernel)) ggX8_bring_X2_add
theorem dX8_bring_0 : decode cX8_bring 0 = .ok (.aload_n 0, 1) := by decide +kernel
theorem dX8_bring_1 : decode cX8_bring 1 = .ok (.iload_n 1, 1) := by decide +kernel
theorem dX8_bring_2 : decode cX8_bring 2 = .ok (.invokevirtual 129, 3) := by decide +kernel
theorem dX8_bring_5 : decode cX8_bring 5 = .ok (.ifCond .eq 13, 3) := by decide +kernel
theorem dX8_bring_8 : decode cX8_bring 8 = .ok (.iload_n 2, 1) := by decide +kernel
theorem dX8_bring_9 : decode cX8_bring 9 = .ok (.iconst 1, 1) := by decide +kernel
theorem dX8_bring_10 : decode cX8_bring 10 = .ok (.bipush 99, 2) := by decide +kernel
theorem dX8_bring_12 : decode cX8_bring 12 = .ok (.invokestatic 91, 3) := by decide +kernel
theorem dX8_bring_15 : decode cX8_bring 15 = .ok (.ifCond .ne 5, 3) := by decide +kernel
theorem dX8_bring_18 : decode cX8_bring 18 = .ok (.iconst (-1), 1) := by decide +kernel
theorem dX8_bring_19 : decode cX8_bring 19 = .ok (.ireturn, 1) := by decide +kernel
theorem dX8_bring_20 : decode cX8_bring 20 = .ok (.aload_n 0, 1) := by decide +kernel
theorem dX8_bring_21 : decode cX8_bring 21 = .ok (.getfield 38, 3) := by decide +kernel
theorem dX8_bring_24 : decode cX8_bring 24 = .ok (.getfield 132, 3) := by decide +kernel
theorem dX8_bring_27 : decode cX8_bring 27 = .ok (.iload_n 1, 1) := by decide +kernel
theorem dX8_bring_28 : decode cX8_bring 28 = .ok (.iaload, 1) := by decide +kernel
theorem dX8_bring_29 : decode cX8_bring 29 = .ok (.iload_n 2, 1) := by decide +kernel
theorem dX8_bring_30 : decode cX8_bring 30 = .ok (.iadd, 1) := by decide +kernel
theorem dX8_bring_31 : decode cX8_bring 31 = .ok (.sipush 999, 3) := by decide +kernel
theorem dX8_bring_34 : decode cX8_bring 34 = .ok (.if_icmp .le 6, 3) := by decide +kernel
theorem dX8_bring_37 : decode cX8_bring 37 = .ok (.bipush (-3), 2) := by decide +kernel
theorem dX8_bring_39 : decode cX8_bring 39 = .ok (.ireturn, 1) := by decide +kernel
theorem dX8_bring_40 : decode cX8_bring 40 = .ok (.aload_n 0, 1) := by decide +kernel
theorem dX8_bring_41 : decode cX8_bring 41 = .ok (.getfield 38, 3) := by decide +kernel
theorem dX8_bring_44 : decode cX8_bring 44 = .ok (.getfield 132, 3) := by decide +kernel
theorem dX8_bring_47 : decode cX8_bring 47 = .ok (.iload_n 1, 1) := by decide +kernel
theorem dX8_bring_48 : decode cX8_bring 48 = .ok (.iload_n 2, 1) := by decide +kernel
theorem dX8_bring_49 : decode cX8_bring 49 = .ok (.invokestatic 136, 3) := by decide +kernel
theorem dX8_bring_52 : decode cX8_bring 52 = .ok (.aload_n 0, 1) := by decide +kernel
theorem dX8_bring_53 : decode cX8_bring 53 = .ok (.getfield 54, 3) := by decide +kernel
theorem dX8_bring_56 : decode cX8_bring 56 = .ok (.new 114, 3) := by decide +kernel
theorem dX8_bring_59 : decode cX8_bring 59 = .ok (.dup, 1) := by decide +kernel
theorem dX8_bring_60 : decode cX8_bring 60 = .ok (.iconst 2, 1) := by decide +kernel
theorem dX8_bring_61 : decode cX8_bring 61 = .ok (.aload_n 0, 1) := by decide +kernel
theorem dX8_bring_62 : decode cX8_bring 62 = .ok (.getfield 38, 3) := by decide +kernel
theorem dX8_bring_65 : decode cX8_bring 65 = .ok (.getfield 140, 3) := by decide +kernel
theorem dX8_bring_68 : decode cX8_bring 68 = .ok (.iload_n 1, 1) := by decide +kernel
theorem dX8_bring_69 : decode cX8_bring 69 = .ok (.iload_n 2, 1) := by decide +kernel
theorem dX8_bring_70 : decode cX8_bring 70 = .ok (.invokespecial 116, 3) := by decide +kernel
theorem dX8_bring_73 : decode cX8_bring 73 = .ok (.invokevirtual 119, 3) := by decide +kernel
theorem dX8_bring_76 : decode cX8_bring 76 = .ok (.aload_n 0, 1) := by decide +kernel
theorem dX8_bring_77 : decode cX8_bring 77 = .ok (.getfield 38, 3) := by decide +kernel
theorem dX8_bring_80 : decode cX8_bring 80 = .ok (.getfield 132, 3) := by decide +kernel
theorem dX8_bring_83 : decode cX8_bring 83 = .ok (.iload_n 1, 1) := by decide +kernel
theorem dX8_bring_84 : decode cX8_bring 84 = .ok (.iaload, 1) := by decide +kernel
theorem dX8_bring_85 : decode cX8_bring 85 = .ok (.ireturn, 1) := by decide +kernel
set_option maxRecDepth 20000 in
theorem ggX8_undo_X2_takeLatest : GoodIn wsX8_undo wsX2_takeLatest := goodIn_r _ [8, 9, 10, 58, 59] (by decide +kernel) (by decide +kernel)
set_option maxRecDepth 20000 in
theorem gX8_undo_X2_takeLatest : GoodIn wsX8_undo (wsV RX8 143 RX2 yX2_takeLatest wsX2_takeLatest) := goodIn_app (goodIn_of _ (by decide +kernel)) ggX8_undo_X2_takeLatest
set_option maxRecDepth 20000 in
theorem ggX8_undo_X1_undoOn : GoodIn wsX8_undo wsX1_undoOn := goodIn_r _ [15, 16, 17, 18, 19, 20, 21, 22, 23, 24, 25, 26, 27, 28, 29, 30, 31, 32, 33, 34, 35, 36, 37, 38, 39, 40, 41, 42, 43, 44, 45, 46, 47, 48, 49, 60, 61, 62, 63, 64, 65, 66, 67, 68, 69, 70, 71, 72, 73, 74, 75, 76, 77] (by decide +kernel) (by decide +kernel)
set_option maxRecDepth 20000 in
theorem gX8_undo_X1_undoOn : GoodIn wsX8_undo (wsV RX8 147 RX1 yX1_undoOn wsX1_undoOn) := goodIn_app (goodIn_of _ (by decide +kernel)) ggX8_undo_X1_undoOn
theorem dX8_undo_0 : decode cX8_undo 0 = .ok (.aload_n 0, 1) := by decide +kernel
theorem dX8_undo_1 : decode cX8_undo 1 = .ok (.getfield 54, 3) := by decide +kernel
theorem dX8_undo_4 : decode cX8_undo 4 = .ok (.invokevirtual 143, 3) := by decide +kernel
theorem dX8_undo_7 : decode cX8_undo 7 = .ok (.astore_n 1, 1) := by decide +kernel
theorem dX8_undo_8 : decode cX8_undo 8 = .ok (.aload_n 1, 1) := by decide +kernel
theorem dX8_undo_9 : decode cX8_undo 9 = .ok (.ifnonnull 6, 3) := by decide +kernel
theorem dX8_undo_12 : decode cX8_undo 12 = .ok (.bipush (-2), 2) := by decide +kernel
theorem dX8_undo_14 : decode cX8_undo 14 = .ok (.ireturn, 1) := by decide +kernel
theorem dX8_undo_15 : decode cX8_undo 15 = .ok (.aload_n 1, 1) := by decide +kernel
theorem dX8_undo_16 : decode cX8_undo 16 = .ok (.aload_n 0, 1) := by decide +kernel
theorem dX8_undo_17 : decode cX8_undo 17 = .ok (.getfield 38, 3) := by decide +kernel
theorem dX8_undo_20 : decode cX8_undo 20 = .ok (.invokevirtual 147, 3) := by decide +kernel
theorem dX8_undo_23 : decode cX8_undo 23 = .ok (.aload_n 0, 1) := by decide +kernel
theorem dX8_undo_24 : decode cX8_undo 24 = .ok (.getfield 54, 3) := by decide +kernel
theorem dX8_undo_27 : decode cX8_undo 27 = .ok (.getfield 151, 3) := by decide +kernel
theorem dX8_undo_30 : decode cX8_undo 30 = .ok (.ireturn, 1) := by decide +kernel
set_option maxRecDepth 20000 in
theorem ggX8_heap_X8_isHeap : GoodIn wsX8_heap wsX8_isHeap := goodIn_r _ [10, 1, 11, 12, 13, 9, 14, 24, 25, 26, 27, 28, 29, 30, 31, 32, 33, 34, 35, 36, 37, 38, 39, 40] (by decide +kernel) (by decide +kernel)
set_option maxRecDepth 20000 in
theorem gX8_heap_X8_isHeap : GoodIn wsX8_heap (wsV RX8 129 RX8 yX8_isHeap wsX8_isHeap) := goodIn_app (goodIn_of _ (by decide +kernel)) ggX8_heap_X8_isHeap
set_option maxRecDepth 20000 in
theorem ggX8_heap_X6_laidOf : GoodIn wsX8_heap wsX6_laidOf := goodIn_r _ [19, 20, 21, 22, 23, 41, 42, 43, 44, 45, 46, 47, 48, 49, 50, 51, 52, 53, 54] (by decide +kernel) (by decide +kernel)
set_option maxRecDepth 20000 in
theorem gX8_heap_X6_laidOf : GoodIn wsX8_heap (wsV RX8 157 RX6 yX6_laidOf wsX6_laidOf) := goodIn_app (goodIn_of _ (by decide +kernel)) ggX8_heap_X6_laidOf
theorem dX8_heap_0 : decode cX8_heap 0 = .ok (.aload_n 0, 1) := by decide +kernel
theorem dX8_heap_1 : decode cX8_heap 1 = .ok (.iload_n 1, 1) := by decide +kernel
theorem dX8_heap_2 : decode cX8_heap 2 = .ok (.invokevirtual 129, 3) := by decide +kernel
theorem dX8_heap_5 : decode cX8_heap 5 = .ok (.ifCond .ne 5, 3) := by decide +kernel
theorem dX8_heap_8 : decode cX8_heap 8 = .ok (.iconst (-1), 1) := by decide +kernel
theorem dX8_heap_9 : decode cX8_heap 9 = .ok (.ireturn, 1) := by decide +kernel
theorem dX8_heap_10 : decode cX8_heap 10 = .ok (.iload_n 2, 1) := by decide +kernel
theorem dX8_heap_11 : decode cX8_heap 11 = .ok (.tableswitch 68 0 3 #[29, 39, 49, 59], 29) := by decide +kernel
theorem dX8_heap_40 : decode cX8_heap 40 = .ok (.aload_n 0, 1) := by decide +kernel
theorem dX8_heap_41 : decode cX8_heap 41 = .ok (.getfield 19, 3) := by decide +kernel
theorem dX8_heap_44 : decode cX8_heap 44 = .ok (.getfield 152, 3) := by decide +kernel
theorem dX8_heap_47 : decode cX8_heap 47 = .ok (.iload_n 1, 1) := by decide +kernel
theorem dX8_heap_48 : decode cX8_heap 48 = .ok (.iaload, 1) := by decide +kernel
theorem dX8_heap_49 : decode cX8_heap 49 = .ok (.ireturn, 1) := by decide +kernel
theorem dX8_heap_50 : decode cX8_heap 50 = .ok (.aload_n 0, 1) := by decide +kernel
theorem dX8_heap_51 : decode cX8_heap 51 = .ok (.getfield 19, 3) := by decide +kernel
theorem dX8_heap_54 : decode cX8_heap 54 = .ok (.getfield 154, 3) := by decide +kernel
theorem dX8_heap_57 : decode cX8_heap 57 = .ok (.iload_n 1, 1) := by decide +kernel
theorem dX8_heap_58 : decode cX8_heap 58 = .ok (.iaload, 1) := by decide +kernel
theorem dX8_heap_59 : decode cX8_heap 59 = .ok (.ireturn, 1) := by decide +kernel
theorem dX8_heap_60 : decode cX8_heap 60 = .ok (.aload_n 0, 1) := by decide +kernel
theorem dX8_heap_61 : decode cX8_heap 61 = .ok (.getfield 38, 3) := by decide +kernel
theorem dX8_heap_64 : decode cX8_heap 64 = .ok (.getfield 132, 3) := by decide +kernel
theorem dX8_heap_67 : decode cX8_heap 67 = .ok (.iload_n 1, 1) := by decide +kernel
theorem dX8_heap_68 : decode cX8_heap 68 = .ok (.iaload, 1) := by decide +kernel
theorem dX8_heap_69 : decode cX8_heap 69 = .ok (.ireturn, 1) := by decide +kernel
theorem dX8_heap_70 : decode cX8_heap 70 = .ok (.aload_n 0, 1) := by decide +kernel
theorem dX8_heap_71 : decode cX8_heap 71 = .ok (.getfield 38, 3) := by decide +kernel
theorem dX8_heap_74 : decode cX8_heap 74 = .ok (.iload_n 1, 1) := by decide +kernel
theorem dX8_heap_75 : decode cX8_heap 75 = .ok (.invokevirtual 157, 3) := by decide +kernel
theorem dX8_heap_78 : decode cX8_heap 78 = .ok (.ireturn, 1) := by decide +kernel
theorem dX8_heap_79 : decode cX8_heap 79 = .ok (.iconst (-1), 1) := by decide +kernel
theorem dX8_heap_80 : decode cX8_heap 80 = .ok (.ireturn, 1) := by decide +kernel
set_option maxRecDepth 20000 in
theorem ggX8_told_X8_isCourse : GoodIn wsX8_told wsX8_isCourse := goodIn_r _ [14, 1, 15, 16, 17, 13, 18, 28, 29, 30, 31, 32, 33, 34, 35, 36, 37, 38, 39, 40] (by decide +kernel) (by decide +kernel)
set_option maxRecDepth 20000 in
theorem gX8_told_X8_isCourse : GoodIn wsX8_told (wsV RX8 161 RX8 yX8_isCourse wsX8_isCourse) := goodIn_app (goodIn_of _ (by decide +kernel)) ggX8_told_X8_isCourse
set_option maxRecDepth 20000 in
theorem ggX8_told_X6_lapHeldBy : GoodIn wsX8_told wsX6_lapHeldBy := goodIn_r _ [23, 24, 25, 26, 27, 36, 37, 38, 39, 40, 41, 42, 43, 44, 45, 46, 47, 48, 49] (by decide +kernel) (by decide +kernel)
set_option maxRecDepth 20000 in
theorem gX8_told_X6_lapHeldBy : GoodIn wsX8_told (wsV RX8 182 RX6 yX6_lapHeldBy wsX6_lapHeldBy) := goodIn_app (goodIn_of _ (by decide +kernel)) ggX8_told_X6_lapHeldBy
theorem dX8_told_0 : decode cX8_told 0 = .ok (.aload_n 0, 1) := by decide +kernel
theorem dX8_told_1 : decode cX8_told 1 = .ok (.iload_n 1, 1) := by decide +kernel
theorem dX8_told_2 : decode cX8_told 2 = .ok (.invokevirtual 161, 3) := by decide +kernel
theorem dX8_told_5 : decode cX8_told 5 = .ok (.ifCond .ne 5, 3) := by decide +kernel
theorem dX8_told_8 : decode cX8_told 8 = .ok (.iconst (-1), 1) := by decide +kernel
theorem dX8_told_9 : decode cX8_told 9 = .ok (.ireturn, 1) := by decide +kernel
theorem dX8_told_10 : decode cX8_told 10 = .ok (.aload_n 0, 1) := by decide +kernel
theorem dX8_told_11 : decode cX8_told 11 = .ok (.getfield 38, 3) := by decide +kernel
theorem dX8_told_14 : decode cX8_told 14 = .ok (.getfield 164, 3) := by decide +kernel
theorem dX8_told_17 : decode cX8_told 17 = .ok (.iload_n 1, 1) := by decide +kernel
theorem dX8_told_18 : decode cX8_told 18 = .ok (.aaload, 1) := by decide +kernel
theorem dX8_told_19 : decode cX8_told 19 = .ok (.astore_n 3, 1) := by decide +kernel
theorem dX8_told_20 : decode cX8_told 20 = .ok (.iload_n 2, 1) := by decide +kernel
theorem dX8_told_21 : decode cX8_told 21 = .ok (.tableswitch 91 0 7 #[47, 52, 57, 62, 67, 72, 77, 86], 47) := by decide +kernel
theorem dX8_told_68 : decode cX8_told 68 = .ok (.aload_n 3, 1) := by decide +kernel
theorem dX8_told_69 : decode cX8_told 69 = .ok (.getfield 168, 3) := by decide +kernel
theorem dX8_told_72 : decode cX8_told 72 = .ok (.ireturn, 1) := by decide +kernel
theorem dX8_told_73 : decode cX8_told 73 = .ok (.aload_n 3, 1) := by decide +kernel
theorem dX8_told_74 : decode cX8_told 74 = .ok (.getfield 170, 3) := by decide +kernel
theorem dX8_told_77 : decode cX8_told 77 = .ok (.ireturn, 1) := by decide +kernel
theorem dX8_told_78 : decode cX8_told 78 = .ok (.aload_n 3, 1) := by decide +kernel
theorem dX8_told_79 : decode cX8_told 79 = .ok (.getfield 173, 3) := by decide +kernel
theorem dX8_told_82 : decode cX8_told 82 = .ok (.ireturn, 1) := by decide +kernel
theorem dX8_told_83 : decode cX8_told 83 = .ok (.aload_n 3, 1) := by decide +kernel
theorem dX8_told_84 : decode cX8_told 84 = .ok (.getfield 176, 3) := by decide +kernel
theorem dX8_told_87 : decode cX8_told 87 = .ok (.ireturn, 1) := by decide +kernel
theorem dX8_told_88 : decode cX8_told 88 = .ok (.aload_n 3, 1) := by decide +kernel
theorem dX8_told_89 : decode cX8_told 89 = .ok (.getfield 123, 3) := by decide +kernel
theorem dX8_told_92 : decode cX8_told 92 = .ok (.ireturn, 1) := by decide +kernel
theorem dX8_told_93 : decode cX8_told 93 = .ok (.aload_n 3, 1) := by decide +kernel
theorem dX8_told_94 : decode cX8_told 94 = .ok (.getfield 179, 3) := by decide +kernel
theorem dX8_told_97 : decode cX8_told 97 = .ok (.ireturn, 1) := by decide +kernel
theorem dX8_told_98 : decode cX8_told 98 = .ok (.aload_n 0, 1) := by decide +kernel
theorem dX8_told_99 : decode cX8_told 99 = .ok (.getfield 38, 3) := by decide +kernel
theorem dX8_told_102 : decode cX8_told 102 = .ok (.iload_n 1, 1) := by decide +kernel
theorem dX8_told_103 : decode cX8_told 103 = .ok (.invokevirtual 182, 3) := by decide +kernel
theorem dX8_told_106 : decode cX8_told 106 = .ok (.ireturn, 1) := by decide +kernel
theorem dX8_told_107 : decode cX8_told 107 = .ok (.aload_n 3, 1) := by decide +kernel
theorem dX8_told_108 : decode cX8_told 108 = .ok (.getfield 185, 3) := by decide +kernel
theorem dX8_told_111 : decode cX8_told 111 = .ok (.ireturn, 1) := by decide +kernel
theorem dX8_told_112 : decode cX8_told 112 = .ok (.iconst (-1), 1) := by decide +kernel
theorem dX8_told_113 : decode cX8_told 113 = .ok (.ireturn, 1) := by decide +kernel
set_option maxRecDepth 20000 in
theorem ggX8_joint_X8_isCourse : GoodIn wsX8_joint wsX8_isCourse := goodIn_r _ [8, 1, 9, 10, 11, 7, 12, 23, 24, 25, 26, 27, 28, 29, 30, 31, 32, 33, 34, 35] (by decide +kernel) (by decide +kernel)
set_option maxRecDepth 20000 in
theorem gX8_joint_X8_isCourse : GoodIn wsX8_joint (wsV RX8 161 RX8 yX8_isCourse wsX8_isCourse) := goodIn_app (goodIn_of _ (by decide +kernel)) ggX8_joint_X8_isCourse
set_option maxRecDepth 20000 in
theorem ggX8_joint_X3_joints : GoodIn wsX8_joint wsX3_joints := goodIn_r _ [17, 18, 19, 20, 21, 22, 36, 37, 38, 39, 40, 41, 42, 43, 44] (by decide +kernel) (by decide +kernel)
set_option maxRecDepth 20000 in
theorem gX8_joint_X3_joints : GoodIn wsX8_joint (wsV RX8 188 RX3 yX3_joints wsX3_joints) := goodIn_app (goodIn_of _ (by decide +kernel)) ggX8_joint_X3_joints
theorem dX8_joint_0 : decode cX8_joint 0 = .ok (.aload_n 0, 1) := by decide +kernel
theorem dX8_joint_1 : decode cX8_joint 1 = .ok (.iload_n 1, 1) := by decide +kernel
theorem dX8_joint_2 : decode cX8_joint 2 = .ok (.invokevirtual 161, 3) := by decide +kernel
theorem dX8_joint_5 : decode cX8_joint 5 = .ok (.ifCond .eq 7, 3) := by decide +kernel
theorem dX8_joint_8 : decode cX8_joint 8 = .ok (.iload_n 2, 1) := by decide +kernel
theorem dX8_joint_9 : decode cX8_joint 9 = .ok (.ifCond .ge 5, 3) := by decide +kernel
theorem dX8_joint_12 : decode cX8_joint 12 = .ok (.iconst (-1), 1) := by decide +kernel
theorem dX8_joint_13 : decode cX8_joint 13 = .ok (.ireturn, 1) := by decide +kernel
theorem dX8_joint_14 : decode cX8_joint 14 = .ok (.aload_n 0, 1) := by decide +kernel
theorem dX8_joint_15 : decode cX8_joint 15 = .ok (.getfield 38, 3) := by decide +kernel
theorem dX8_joint_18 : decode cX8_joint 18 = .ok (.getfield 164, 3) := by decide +kernel
theorem dX8_joint_21 : decode cX8_joint 21 = .ok (.iload_n 1, 1) := by decide +kernel
theorem dX8_joint_22 : decode cX8_joint 22 = .ok (.aaload, 1) := by decide +kernel
theorem dX8_joint_23 : decode cX8_joint 23 = .ok (.astore_n 3, 1) := by decide +kernel
theorem dX8_joint_24 : decode cX8_joint 24 = .ok (.iload_n 2, 1) := by decide +kernel
theorem dX8_joint_25 : decode cX8_joint 25 = .ok (.aload_n 3, 1) := by decide +kernel
theorem dX8_joint_26 : decode cX8_joint 26 = .ok (.invokevirtual 188, 3) := by decide +kernel
theorem dX8_joint_29 : decode cX8_joint 29 = .ok (.if_icmp .ge 12, 3) := by decide +kernel
theorem dX8_joint_32 : decode cX8_joint 32 = .ok (.aload_n 3, 1) := by decide +kernel
theorem dX8_joint_33 : decode cX8_joint 33 = .ok (.getfield 191, 3) := by decide +kernel
theorem dX8_joint_36 : decode cX8_joint 36 = .ok (.iload_n 2, 1) := by decide +kernel
theorem dX8_joint_37 : decode cX8_joint 37 = .ok (.iaload, 1) := by decide +kernel
theorem dX8_joint_38 : decode cX8_joint 38 = .ok (.goto 5, 3) := by decide +kernel
theorem dX8_joint_41 : decode cX8_joint 41 = .ok (.bipush (-4), 2) := by decide +kernel
theorem dX8_joint_43 : decode cX8_joint 43 = .ok (.ireturn, 1) := by decide +kernel
set_option maxRecDepth 20000 in
theorem ggX8_slate_X8_isCourse : GoodIn wsX8_slate wsX8_isCourse := goodIn_r _ [10, 1, 11, 12, 13, 9, 14, 21, 22, 23, 24, 25, 26, 27, 28, 29, 30, 31, 32, 33] (by decide +kernel) (by decide +kernel)
set_option maxRecDepth 20000 in
theorem gX8_slate_X8_isCourse : GoodIn wsX8_slate (wsV RX8 161 RX8 yX8_isCourse wsX8_isCourse) := goodIn_app (goodIn_of _ (by decide +kernel)) ggX8_slate_X8_isCourse
set_option maxRecDepth 20000 in
theorem ggX8_slate_X8_isWithin : GoodIn wsX8_slate wsX8_isWithin := goodIn_r _ [14] (by decide +kernel) (by decide +kernel)
set_option maxRecDepth 20000 in
theorem gX8_slate_X8_isWithin : GoodIn wsX8_slate (va_wsS RX8 91 yX8_isWithin wsX8_isWithin) := goodIn_app (goodIn_of _ (by decide +kernel)) ggX8_slate_X8_isWithin
set_option maxRecDepth 20000 in
theorem ggX8_slate_X3_startOf : GoodIn wsX8_slate wsX3_startOf := goodIn_r _ [19, 20, 34, 35, 36, 37, 38, 39, 40, 41, 42] (by decide +kernel) (by decide +kernel)
set_option maxRecDepth 20000 in
theorem gX8_slate_X3_startOf : GoodIn wsX8_slate (wsV RX8 197 RX3 yX3_startOf wsX3_startOf) := goodIn_app (goodIn_of _ (by decide +kernel)) ggX8_slate_X3_startOf
theorem dX8_slate_0 : decode cX8_slate 0 = .ok (.aload_n 0, 1) := by decide +kernel
theorem dX8_slate_1 : decode cX8_slate 1 = .ok (.iload_n 1, 1) := by decide +kernel
theorem dX8_slate_2 : decode cX8_slate 2 = .ok (.invokevirtual 161, 3) := by decide +kernel
theorem dX8_slate_5 : decode cX8_slate 5 = .ok (.ifCond .eq 16, 3) := by decide +kernel
theorem dX8_slate_8 : decode cX8_slate 8 = .ok (.iload_n 2, 1) := by decide +kernel
theorem dX8_slate_9 : decode cX8_slate 9 = .ok (.ifCond .lt 12, 3) := by decide +kernel
theorem dX8_slate_12 : decode cX8_slate 12 = .ok (.iload_n 3, 1) := by decide +kernel
theorem dX8_slate_13 : decode cX8_slate 13 = .ok (.iconst 0, 1) := by decide +kernel
theorem dX8_slate_14 : decode cX8_slate 14 = .ok (.iconst 1, 1) := by decide +kernel
theorem dX8_slate_15 : decode cX8_slate 15 = .ok (.invokestatic 91, 3) := by decide +kernel
theorem dX8_slate_18 : decode cX8_slate 18 = .ok (.ifCond .ne 5, 3) := by decide +kernel
theorem dX8_slate_21 : decode cX8_slate 21 = .ok (.iconst (-1), 1) := by decide +kernel
theorem dX8_slate_22 : decode cX8_slate 22 = .ok (.ireturn, 1) := by decide +kernel
theorem dX8_slate_23 : decode cX8_slate 23 = .ok (.aload_n 0, 1) := by decide +kernel
theorem dX8_slate_24 : decode cX8_slate 24 = .ok (.getfield 38, 3) := by decide +kernel
theorem dX8_slate_27 : decode cX8_slate 27 = .ok (.getfield 164, 3) := by decide +kernel
theorem dX8_slate_30 : decode cX8_slate 30 = .ok (.iload_n 1, 1) := by decide +kernel
theorem dX8_slate_31 : decode cX8_slate 31 = .ok (.aaload, 1) := by decide +kernel
theorem dX8_slate_32 : decode cX8_slate 32 = .ok (.astore 4, 2) := by decide +kernel
theorem dX8_slate_34 : decode cX8_slate 34 = .ok (.iload_n 2, 1) := by decide +kernel
theorem dX8_slate_35 : decode cX8_slate 35 = .ok (.aload 4, 2) := by decide +kernel
theorem dX8_slate_37 : decode cX8_slate 37 = .ok (.getfield 123, 3) := by decide +kernel
theorem dX8_slate_40 : decode cX8_slate 40 = .ok (.if_icmp .lt 6, 3) := by decide +kernel
theorem dX8_slate_43 : decode cX8_slate 43 = .ok (.bipush (-4), 2) := by decide +kernel
theorem dX8_slate_45 : decode cX8_slate 45 = .ok (.ireturn, 1) := by decide +kernel
theorem dX8_slate_46 : decode cX8_slate 46 = .ok (.iload_n 3, 1) := by decide +kernel
theorem dX8_slate_47 : decode cX8_slate 47 = .ok (.ifCond .ne 13, 3) := by decide +kernel
theorem dX8_slate_50 : decode cX8_slate 50 = .ok (.aload 4, 2) := by decide +kernel
theorem dX8_slate_52 : decode cX8_slate 52 = .ok (.getfield 194, 3) := by decide +kernel
theorem dX8_slate_55 : decode cX8_slate 55 = .ok (.iload_n 2, 1) := by decide +kernel
theorem dX8_slate_56 : decode cX8_slate 56 = .ok (.iaload, 1) := by decide +kernel
theorem dX8_slate_57 : decode cX8_slate 57 = .ok (.goto 17, 3) := by decide +kernel
theorem dX8_slate_60 : decode cX8_slate 60 = .ok (.aload 4, 2) := by decide +kernel
theorem dX8_slate_62 : decode cX8_slate 62 = .ok (.getfield 191, 3) := by decide +kernel
theorem dX8_slate_65 : decode cX8_slate 65 = .ok (.iload_n 2, 1) := by decide +kernel
theorem dX8_slate_66 : decode cX8_slate 66 = .ok (.iaload, 1) := by decide +kernel
theorem dX8_slate_67 : decode cX8_slate 67 = .ok (.aload 4, 2) := by decide +kernel
theorem dX8_slate_69 : decode cX8_slate 69 = .ok (.iload_n 2, 1) := by decide +kernel
theorem dX8_slate_70 : decode cX8_slate 70 = .ok (.invokevirtual 197, 3) := by decide +kernel
theorem dX8_slate_73 : decode cX8_slate 73 = .ok (.isub, 1) := by decide +kernel
theorem dX8_slate_74 : decode cX8_slate 74 = .ok (.ireturn, 1) := by decide +kernel
set_option maxRecDepth 20000 in
theorem ggX8_tried_X8_isWithin : GoodIn wsX8_tried wsX8_isWithin := goodIn_r _ [7] (by decide +kernel) (by decide +kernel)
set_option maxRecDepth 20000 in
theorem gX8_tried_X8_isWithin : GoodIn wsX8_tried (va_wsS RX8 91 yX8_isWithin wsX8_isWithin) := goodIn_app (goodIn_of _ (by decide +kernel)) ggX8_tried_X8_isWithin
set_option maxRecDepth 20000 in
theorem ggX8_tried_X8_fillTrial : GoodIn wsX8_tried wsX8_fillTrial := goodIn_r _ [11, 12, 13, 14, 1, 15, 16, 17, 18, 19, 20, 21, 22, 23, 24, 25, 26, 27, 28, 29, 30, 31, 32, 33, 34, 35, 36, 37, 38, 39, 40, 41, 42, 43, 44, 45, 46, 47, 48, 49, 50, 51, 52, 53, 54, 55, 56, 57, 58, 59, 60, 61, 62, 63, 64, 65, 66, 67, 68, 69, 70, 71, 72, 73, 74, 75, 76, 77, 78, 79, 80, 81, 82, 83, 84, 85, 86, 87, 88, 89, 90, 91, 92, 93, 94, 95, 96, 97, 98, 99, 100, 101, 102, 103, 104, 105, 106, 107, 108, 109, 110, 111, 112, 113, 114, 115, 116, 117, 118, 119, 120, 121, 122, 123, 124, 125, 126, 127, 128, 129, 130, 131, 132, 133, 134, 135, 136, 137, 138, 139, 140, 141, 142, 143, 144, 145, 146, 147, 148, 149, 150, 151, 152, 153, 154, 155, 156, 157, 158, 159, 160] (by decide +kernel) (by decide +kernel)
set_option maxRecDepth 20000 in
theorem gX8_tried_X8_fillTrial : GoodIn wsX8_tried (wsV RX8 106 RX8 yX8_fillTrial wsX8_fillTrial) := goodIn_app (goodIn_of _ (by decide +kernel)) ggX8_tried_X8_fillTrial
theorem dX8_tried_0 : decode cX8_tried 0 = .ok (.iload_n 1, 1) := by decide +kernel
theorem dX8_tried_1 : decode cX8_tried 1 = .ok (.bipush 20, 2) := by decide +kernel
theorem dX8_tried_3 : decode cX8_tried 3 = .ok (.bipush 60, 2) := by decide +kernel
theorem dX8_tried_5 : decode cX8_tried 5 = .ok (.invokestatic 91, 3) := by decide +kernel
theorem dX8_tried_8 : decode cX8_tried 8 = .ok (.ifCond .eq 12, 3) := by decide +kernel
theorem dX8_tried_11 : decode cX8_tried 11 = .ok (.iload_n 2, 1) := by decide +kernel
theorem dX8_tried_12 : decode cX8_tried 12 = .ok (.iconst 0, 1) := by decide +kernel
theorem dX8_tried_13 : decode cX8_tried 13 = .ok (.iconst 1, 1) := by decide +kernel
theorem dX8_tried_14 : decode cX8_tried 14 = .ok (.invokestatic 91, 3) := by decide +kernel
theorem dX8_tried_17 : decode cX8_tried 17 = .ok (.ifCond .ne 5, 3) := by decide +kernel
theorem dX8_tried_20 : decode cX8_tried 20 = .ok (.iconst (-1), 1) := by decide +kernel
theorem dX8_tried_21 : decode cX8_tried 21 = .ok (.ireturn, 1) := by decide +kernel
theorem dX8_tried_22 : decode cX8_tried 22 = .ok (.aload_n 0, 1) := by decide +kernel
theorem dX8_tried_23 : decode cX8_tried 23 = .ok (.iload_n 1, 1) := by decide +kernel
theorem dX8_tried_24 : decode cX8_tried 24 = .ok (.invokevirtual 106, 3) := by decide +kernel
theorem dX8_tried_27 : decode cX8_tried 27 = .ok (.ifCond .ne 6, 3) := by decide +kernel
theorem dX8_tried_30 : decode cX8_tried 30 = .ok (.bipush (-2), 2) := by decide +kernel
theorem dX8_tried_32 : decode cX8_tried 32 = .ok (.ireturn, 1) := by decide +kernel
theorem dX8_tried_33 : decode cX8_tried 33 = .ok (.iload_n 2, 1) := by decide +kernel
theorem dX8_tried_34 : decode cX8_tried 34 = .ok (.ifCond .ne 13, 3) := by decide +kernel
theorem dX8_tried_37 : decode cX8_tried 37 = .ok (.aload_n 0, 1) := by decide +kernel
theorem dX8_tried_38 : decode cX8_tried 38 = .ok (.getfield 61, 3) := by decide +kernel
theorem dX8_tried_41 : decode cX8_tried 41 = .ok (.getfield 123, 3) := by decide +kernel
theorem dX8_tried_44 : decode cX8_tried 44 = .ok (.goto 10, 3) := by decide +kernel
theorem dX8_tried_47 : decode cX8_tried 47 = .ok (.aload_n 0, 1) := by decide +kernel
theorem dX8_tried_48 : decode cX8_tried 48 = .ok (.getfield 61, 3) := by decide +kernel
theorem dX8_tried_51 : decode cX8_tried 51 = .ok (.getfield 179, 3) := by decide +kernel
theorem dX8_tried_54 : decode cX8_tried 54 = .ok (.ireturn, 1) := by decide +kernel
set_option maxRecDepth 20000 in
theorem ggX8_next_X8_isWithin : GoodIn wsX8_next wsX8_isWithin := goodIn_r _ [7] (by decide +kernel) (by decide +kernel)
set_option maxRecDepth 20000 in
theorem gX8_next_X8_isWithin : GoodIn wsX8_next (va_wsS RX8 91 yX8_isWithin wsX8_isWithin) := goodIn_app (goodIn_of _ (by decide +kernel)) ggX8_next_X8_isWithin
set_option maxRecDepth 20000 in
theorem ggX8_next_X6_isOpen : GoodIn wsX8_next wsX6_isOpen := goodIn_r _ [12, 13, 14, 15, 16, 17, 11, 18, 19, 20, 21, 22, 23, 24, 25, 26, 27, 28, 29, 30, 31, 32, 33, 141, 142, 143, 144, 145, 146, 147, 148, 149, 150, 151, 152, 153, 154, 155, 156, 157, 158, 159, 160, 161, 162, 163] (by decide +kernel) (by decide +kernel)
set_option maxRecDepth 20000 in
theorem gX8_next_X6_isOpen : GoodIn wsX8_next (wsV RX8 200 RX6 yX6_isOpen wsX6_isOpen) := goodIn_app (goodIn_of _ (by decide +kernel)) ggX8_next_X6_isOpen
set_option maxRecDepth 20000 in
theorem ggX8_next_X6_last : GoodIn wsX8_next wsX6_last := goodIn_r _ [18, 13, 19, 20, 141, 142, 143, 144, 145] (by decide +kernel) (by decide +kernel)
set_option maxRecDepth 20000 in
theorem gX8_next_X6_last : GoodIn wsX8_next (wsV RX8 204 RX6 yX6_last wsX6_last) := goodIn_app (goodIn_of _ (by decide +kernel)) ggX8_next_X6_last
set_option maxRecDepth 20000 in
theorem ggX8_next_X0_choose : GoodIn wsX8_next wsX0_choose := goodIn_r _ [39, 40, 41, 42, 43, 44, 45, 46, 47, 48, 49, 50, 51, 52, 53, 54, 55, 56, 57, 58, 59, 60, 61, 62, 28, 29, 30, 31, 32, 33, 63, 64, 65, 24, 66, 67, 68, 69, 70, 71, 72, 73, 74, 75, 76, 77, 78, 79, 80, 81, 82, 83, 84, 85, 86, 87, 88, 89, 90, 91, 92, 93, 94, 95, 96, 97, 98, 99, 100, 101, 102, 103, 104, 105, 106, 107, 108, 109, 110, 111, 112, 113, 114, 115, 116, 117, 118, 119, 120, 121, 122, 123, 124, 125, 126, 127, 128, 129, 130, 131, 132, 164, 165, 166, 167, 168, 169, 170, 171, 172, 173, 146, 147, 148, 149, 150, 151, 152, 153, 154, 155, 156, 157, 158, 159, 160, 161, 162, 163, 174, 175] (by decide +kernel) (by decide +kernel)
set_option maxRecDepth 20000 in
theorem gX8_next_X0_choose : GoodIn wsX8_next (wsV RX8 207 RX0 yX0_choose wsX0_choose) := goodIn_app (goodIn_of _ (by decide +kernel)) ggX8_next_X0_choose
theorem dX8_next_0 : decode cX8_next 0 = .ok (.iload_n 1, 1) := by decide +kernel
theorem dX8_next_1 : decode cX8_next 1 = .ok (.iconst 0, 1) := by decide +kernel
theorem dX8_next_2 : decode cX8_next 2 = .ok (.iconst 1, 1) := by decide +kernel
theorem dX8_next_3 : decode cX8_next 3 = .ok (.invokestatic 91, 3) := by decide +kernel
theorem dX8_next_6 : decode cX8_next 6 = .ok (.ifCond .ne 5, 3) := by decide +kernel
theorem dX8_next_9 : decode cX8_next 9 = .ok (.iconst (-1), 1) := by decide +kernel
theorem dX8_next_10 : decode cX8_next 10 = .ok (.ireturn, 1) := by decide +kernel
theorem dX8_next_11 : decode cX8_next 11 = .ok (.aload_n 0, 1) := by decide +kernel
theorem dX8_next_12 : decode cX8_next 12 = .ok (.getfield 38, 3) := by decide +kernel
theorem dX8_next_15 : decode cX8_next 15 = .ok (.invokevirtual 200, 3) := by decide +kernel
theorem dX8_next_18 : decode cX8_next 18 = .ok (.ifCond .eq 28, 3) := by decide +kernel
theorem dX8_next_21 : decode cX8_next 21 = .ok (.aload_n 0, 1) := by decide +kernel
theorem dX8_next_22 : decode cX8_next 22 = .ok (.getfield 47, 3) := by decide +kernel
theorem dX8_next_25 : decode cX8_next 25 = .ok (.iload_n 1, 1) := by decide +kernel
theorem dX8_next_26 : decode cX8_next 26 = .ok (.aload_n 0, 1) := by decide +kernel
theorem dX8_next_27 : decode cX8_next 27 = .ok (.getfield 38, 3) := by decide +kernel
theorem dX8_next_30 : decode cX8_next 30 = .ok (.getfield 132, 3) := by decide +kernel
theorem dX8_next_33 : decode cX8_next 33 = .ok (.aload_n 0, 1) := by decide +kernel
theorem dX8_next_34 : decode cX8_next 34 = .ok (.getfield 38, 3) := by decide +kernel
theorem dX8_next_37 : decode cX8_next 37 = .ok (.invokevirtual 204, 3) := by decide +kernel
theorem dX8_next_40 : decode cX8_next 40 = .ok (.invokevirtual 207, 3) := by decide +kernel
theorem dX8_next_43 : decode cX8_next 43 = .ok (.goto 5, 3) := by decide +kernel
theorem dX8_next_46 : decode cX8_next 46 = .ok (.bipush (-4), 2) := by decide +kernel
theorem dX8_next_48 : decode cX8_next 48 = .ok (.ireturn, 1) := by decide +kernel
set_option maxRecDepth 20000 in
theorem ggX8_itself_X8_isWithin : GoodIn wsX8_itself wsX8_isWithin := goodIn_r _ [8] (by decide +kernel) (by decide +kernel)
set_option maxRecDepth 20000 in
theorem gX8_itself_X8_isWithin : GoodIn wsX8_itself (va_wsS RX8 91 yX8_isWithin wsX8_isWithin) := goodIn_app (goodIn_of _ (by decide +kernel)) ggX8_itself_X8_isWithin
set_option maxRecDepth 20000 in
theorem ggX8_itself_X0_go : GoodIn wsX8_itself wsX0_go := goodIn_r _ [13, 14, 15, 16, 17, 18, 19, 20, 21, 22, 23, 24, 25, 26, 27, 28, 29, 30, 31, 32, 33, 34, 35, 36, 37, 38, 39, 40, 41, 42, 43, 44, 45, 46, 47, 48, 49, 50, 51, 52, 53, 12, 54, 55, 56, 57, 58, 59, 60, 61, 62, 63, 64, 65, 66, 67, 68, 69, 70, 71, 72, 73, 74, 75, 76, 77, 78, 79, 80, 81, 82, 83, 84, 85, 86, 87, 88, 89, 90, 91, 92, 93, 94, 95, 96, 97, 98, 99, 100, 101, 102, 103, 104, 105, 106, 107, 108, 109, 110, 111, 112, 113, 114, 115, 116, 117, 118, 119, 120, 121, 122, 123, 124, 125, 126, 127, 128, 129, 130, 131, 132, 133, 134, 135, 136, 137, 138, 139, 140, 141, 142, 143, 144, 145, 146, 147, 148, 149, 6, 7, 8, 158, 159, 160, 161, 162, 163, 164, 165, 166, 167, 168, 169, 170, 171, 172, 173, 174, 175, 176, 177, 178, 179, 180, 181, 182, 183, 184, 185, 186, 187, 188, 189, 190, 191, 192] (by decide +kernel) (by decide +kernel)
set_option maxRecDepth 20000 in
theorem gX8_itself_X0_go : GoodIn wsX8_itself (wsV RX8 211 RX0 yX0_go wsX0_go) := goodIn_app (goodIn_of _ (by decide +kernel)) ggX8_itself_X0_go
theorem dX8_itself_0 : decode cX8_itself 0 = .ok (.iload_n 1, 1) := by decide +kernel
theorem dX8_itself_1 : decode cX8_itself 1 = .ok (.iconst 0, 1) := by decide +kernel
theorem dX8_itself_2 : decode cX8_itself 2 = .ok (.iconst 1, 1) := by decide +kernel
theorem dX8_itself_3 : decode cX8_itself 3 = .ok (.invokestatic 91, 3) := by decide +kernel
theorem dX8_itself_6 : decode cX8_itself 6 = .ok (.ifCond .eq 12, 3) := by decide +kernel
theorem dX8_itself_9 : decode cX8_itself 9 = .ok (.iload_n 2, 1) := by decide +kernel
theorem dX8_itself_10 : decode cX8_itself 10 = .ok (.iconst 0, 1) := by decide +kernel
theorem dX8_itself_11 : decode cX8_itself 11 = .ok (.iconst 2, 1) := by decide +kernel
theorem dX8_itself_12 : decode cX8_itself 12 = .ok (.invokestatic 91, 3) := by decide +kernel
theorem dX8_itself_15 : decode cX8_itself 15 = .ok (.ifCond .ne 5, 3) := by decide +kernel
theorem dX8_itself_18 : decode cX8_itself 18 = .ok (.iconst (-1), 1) := by decide +kernel
theorem dX8_itself_19 : decode cX8_itself 19 = .ok (.ireturn, 1) := by decide +kernel
theorem dX8_itself_20 : decode cX8_itself 20 = .ok (.aload_n 0, 1) := by decide +kernel
theorem dX8_itself_21 : decode cX8_itself 21 = .ok (.getfield 47, 3) := by decide +kernel
theorem dX8_itself_24 : decode cX8_itself 24 = .ok (.iload_n 1, 1) := by decide +kernel
theorem dX8_itself_25 : decode cX8_itself 25 = .ok (.invokevirtual 211, 3) := by decide +kernel
theorem dX8_itself_28 : decode cX8_itself 28 = .ok (.iload_n 2, 1) := by decide +kernel
theorem dX8_itself_29 : decode cX8_itself 29 = .ok (.lookupswitch 43 #[(0, 27), (1, 35)], 27) := by decide +kernel
theorem dX8_itself_56 : decode cX8_itself 56 = .ok (.aload_n 0, 1) := by decide +kernel
theorem dX8_itself_57 : decode cX8_itself 57 = .ok (.getfield 47, 3) := by decide +kernel
theorem dX8_itself_60 : decode cX8_itself 60 = .ok (.getfield 215, 3) := by decide +kernel
theorem dX8_itself_63 : decode cX8_itself 63 = .ok (.ireturn, 1) := by decide +kernel
theorem dX8_itself_64 : decode cX8_itself 64 = .ok (.aload_n 0, 1) := by decide +kernel
theorem dX8_itself_65 : decode cX8_itself 65 = .ok (.getfield 47, 3) := by decide +kernel
theorem dX8_itself_68 : decode cX8_itself 68 = .ok (.getfield 218, 3) := by decide +kernel
theorem dX8_itself_71 : decode cX8_itself 71 = .ok (.ireturn, 1) := by decide +kernel
theorem dX8_itself_72 : decode cX8_itself 72 = .ok (.aload_n 0, 1) := by decide +kernel
theorem dX8_itself_73 : decode cX8_itself 73 = .ok (.getfield 47, 3) := by decide +kernel
theorem dX8_itself_76 : decode cX8_itself 76 = .ok (.getfield 219, 3) := by decide +kernel
theorem dX8_itself_79 : decode cX8_itself 79 = .ok (.ifCond .eq 7, 3) := by decide +kernel
theorem dX8_itself_82 : decode cX8_itself 82 = .ok (.iconst 1, 1) := by decide +kernel
theorem dX8_itself_83 : decode cX8_itself 83 = .ok (.goto 4, 3) := by decide +kernel
theorem dX8_itself_86 : decode cX8_itself 86 = .ok (.iconst 0, 1) := by decide +kernel
theorem dX8_itself_87 : decode cX8_itself 87 = .ok (.ireturn, 1) := by decide +kernel
set_option maxRecDepth 20000 in
theorem ggX8_count_X6_last : GoodIn wsX8_count wsX6_last := goodIn_r _ [18, 19, 20, 21, 65, 66, 67, 68, 69] (by decide +kernel) (by decide +kernel)
set_option maxRecDepth 20000 in
theorem gX8_count_X6_last : GoodIn wsX8_count (wsV RX8 204 RX6 yX6_last wsX6_last) := goodIn_app (goodIn_of _ (by decide +kernel)) ggX8_count_X6_last
set_option maxRecDepth 20000 in
theorem ggX8_count_X3_head : GoodIn wsX8_count wsX3_head := goodIn_r _ [26, 27, 28, 76, 77, 78, 79, 80, 81, 82, 83, 84] (by decide +kernel) (by decide +kernel)
set_option maxRecDepth 20000 in
theorem gX8_count_X3_head : GoodIn wsX8_count (wsV RX8 238 RX3 yX3_head wsX3_head) := goodIn_app (goodIn_of _ (by decide +kernel)) ggX8_count_X3_head
set_option maxRecDepth 20000 in
theorem ggX8_count_X5_isReadyBy : GoodIn wsX8_count wsX5_isReadyBy := goodIn_r _ [33, 34, 35, 23, 24, 25, 26, 27, 28, 56, 57, 58, 59, 60, 61, 62, 63, 64, 76, 77, 78, 79, 80, 81, 82, 83, 84] (by decide +kernel) (by decide +kernel)
set_option maxRecDepth 20000 in
theorem gX8_count_X5_isReadyBy : GoodIn wsX8_count (wsV RX8 241 RX5 yX5_isReadyBy wsX5_isReadyBy) := goodIn_app (goodIn_of _ (by decide +kernel)) ggX8_count_X5_isReadyBy
set_option maxRecDepth 20000 in
theorem ggX8_count_X6_waste : GoodIn wsX8_count wsX6_waste := goodIn_r _ [39, 19, 20, 40, 65, 66, 67, 68, 69, 76, 77, 78, 79, 80, 81, 82, 83, 84] (by decide +kernel) (by decide +kernel)
set_option maxRecDepth 20000 in
theorem gX8_count_X6_waste : GoodIn wsX8_count (wsV RX8 245 RX6 yX6_waste wsX6_waste) := goodIn_app (goodIn_of _ (by decide +kernel)) ggX8_count_X6_waste
set_option maxRecDepth 20000 in
theorem ggX8_count_X6_slatesLeft : GoodIn wsX8_count wsX6_slatesLeft := goodIn_r _ [44, 45, 46, 47, 65, 66, 67, 68, 69, 56, 57, 58, 59, 60, 61, 62, 63, 64] (by decide +kernel) (by decide +kernel)
set_option maxRecDepth 20000 in
theorem gX8_count_X6_slatesLeft : GoodIn wsX8_count (wsV RX8 247 RX6 yX6_slatesLeft wsX6_slatesLeft) := goodIn_app (goodIn_of _ (by decide +kernel)) ggX8_count_X6_slatesLeft
theorem dX8_count_0 : decode cX8_count 0 = .ok (.iload_n 1, 1) := by decide +kernel
theorem dX8_count_1 : decode cX8_count 1 = .ok (.tableswitch 189 0 12 #[67, 75, 83, 91, 99, 107, 115, 123, 134, 157, 165, 173, 181], 67) := by decide +kernel
theorem dX8_count_68 : decode cX8_count 68 = .ok (.aload_n 0, 1) := by decide +kernel
theorem dX8_count_69 : decode cX8_count 69 = .ok (.getfield 19, 3) := by decide +kernel
theorem dX8_count_72 : decode cX8_count 72 = .ok (.getfield 99, 3) := by decide +kernel
theorem dX8_count_75 : decode cX8_count 75 = .ok (.ireturn, 1) := by decide +kernel
theorem dX8_count_76 : decode cX8_count 76 = .ok (.aload_n 0, 1) := by decide +kernel
theorem dX8_count_77 : decode cX8_count 77 = .ok (.getfield 38, 3) := by decide +kernel
theorem dX8_count_80 : decode cX8_count 80 = .ok (.getfield 124, 3) := by decide +kernel
theorem dX8_count_83 : decode cX8_count 83 = .ok (.ireturn, 1) := by decide +kernel
theorem dX8_count_84 : decode cX8_count 84 = .ok (.aload_n 0, 1) := by decide +kernel
theorem dX8_count_85 : decode cX8_count 85 = .ok (.getfield 19, 3) := by decide +kernel
theorem dX8_count_88 : decode cX8_count 88 = .ok (.getfield 223, 3) := by decide +kernel
theorem dX8_count_91 : decode cX8_count 91 = .ok (.ireturn, 1) := by decide +kernel
theorem dX8_count_92 : decode cX8_count 92 = .ok (.aload_n 0, 1) := by decide +kernel
theorem dX8_count_93 : decode cX8_count 93 = .ok (.getfield 19, 3) := by decide +kernel
theorem dX8_count_96 : decode cX8_count 96 = .ok (.getfield 226, 3) := by decide +kernel
theorem dX8_count_99 : decode cX8_count 99 = .ok (.ireturn, 1) := by decide +kernel
theorem dX8_count_100 : decode cX8_count 100 = .ok (.aload_n 0, 1) := by decide +kernel
theorem dX8_count_101 : decode cX8_count 101 = .ok (.getfield 19, 3) := by decide +kernel
theorem dX8_count_104 : decode cX8_count 104 = .ok (.getfield 229, 3) := by decide +kernel
theorem dX8_count_107 : decode cX8_count 107 = .ok (.ireturn, 1) := by decide +kernel
theorem dX8_count_108 : decode cX8_count 108 = .ok (.aload_n 0, 1) := by decide +kernel
theorem dX8_count_109 : decode cX8_count 109 = .ok (.getfield 19, 3) := by decide +kernel
theorem dX8_count_112 : decode cX8_count 112 = .ok (.getfield 232, 3) := by decide +kernel
theorem dX8_count_115 : decode cX8_count 115 = .ok (.ireturn, 1) := by decide +kernel
theorem dX8_count_116 : decode cX8_count 116 = .ok (.aload_n 0, 1) := by decide +kernel
theorem dX8_count_117 : decode cX8_count 117 = .ok (.getfield 19, 3) := by decide +kernel
theorem dX8_count_120 : decode cX8_count 120 = .ok (.getfield 235, 3) := by decide +kernel
theorem dX8_count_123 : decode cX8_count 123 = .ok (.ireturn, 1) := by decide +kernel
theorem dX8_count_124 : decode cX8_count 124 = .ok (.aload_n 0, 1) := by decide +kernel
theorem dX8_count_125 : decode cX8_count 125 = .ok (.getfield 38, 3) := by decide +kernel
theorem dX8_count_128 : decode cX8_count 128 = .ok (.invokevirtual 204, 3) := by decide +kernel
theorem dX8_count_131 : decode cX8_count 131 = .ok (.invokevirtual 238, 3) := by decide +kernel
theorem dX8_count_134 : decode cX8_count 134 = .ok (.ireturn, 1) := by decide +kernel
theorem dX8_count_135 : decode cX8_count 135 = .ok (.aload_n 0, 1) := by decide +kernel
theorem dX8_count_136 : decode cX8_count 136 = .ok (.getfield 19, 3) := by decide +kernel
theorem dX8_count_139 : decode cX8_count 139 = .ok (.aload_n 0, 1) := by decide +kernel
theorem dX8_count_140 : decode cX8_count 140 = .ok (.getfield 38, 3) := by decide +kernel
theorem dX8_count_143 : decode cX8_count 143 = .ok (.invokevirtual 204, 3) := by decide +kernel
theorem dX8_count_146 : decode cX8_count 146 = .ok (.invokevirtual 241, 3) := by decide +kernel
theorem dX8_count_149 : decode cX8_count 149 = .ok (.ifCond .eq 7, 3) := by decide +kernel
theorem dX8_count_152 : decode cX8_count 152 = .ok (.iconst 1, 1) := by decide +kernel
theorem dX8_count_153 : decode cX8_count 153 = .ok (.goto 4, 3) := by decide +kernel
theorem dX8_count_156 : decode cX8_count 156 = .ok (.iconst 0, 1) := by decide +kernel
theorem dX8_count_157 : decode cX8_count 157 = .ok (.ireturn, 1) := by decide +kernel
theorem dX8_count_158 : decode cX8_count 158 = .ok (.aload_n 0, 1) := by decide +kernel
theorem dX8_count_159 : decode cX8_count 159 = .ok (.getfield 38, 3) := by decide +kernel
theorem dX8_count_162 : decode cX8_count 162 = .ok (.invokevirtual 245, 3) := by decide +kernel
theorem dX8_count_165 : decode cX8_count 165 = .ok (.ireturn, 1) := by decide +kernel
theorem dX8_count_166 : decode cX8_count 166 = .ok (.aload_n 0, 1) := by decide +kernel
theorem dX8_count_167 : decode cX8_count 167 = .ok (.getfield 38, 3) := by decide +kernel
theorem dX8_count_170 : decode cX8_count 170 = .ok (.invokevirtual 247, 3) := by decide +kernel
theorem dX8_count_173 : decode cX8_count 173 = .ok (.ireturn, 1) := by decide +kernel
theorem dX8_count_174 : decode cX8_count 174 = .ok (.aload_n 0, 1) := by decide +kernel
theorem dX8_count_175 : decode cX8_count 175 = .ok (.getfield 54, 3) := by decide +kernel
theorem dX8_count_178 : decode cX8_count 178 = .ok (.getfield 151, 3) := by decide +kernel
theorem dX8_count_181 : decode cX8_count 181 = .ok (.ireturn, 1) := by decide +kernel
theorem dX8_count_182 : decode cX8_count 182 = .ok (.aload_n 0, 1) := by decide +kernel
theorem dX8_count_183 : decode cX8_count 183 = .ok (.getfield 10, 3) := by decide +kernel
theorem dX8_count_186 : decode cX8_count 186 = .ok (.getfield 95, 3) := by decide +kernel
theorem dX8_count_189 : decode cX8_count 189 = .ok (.ireturn, 1) := by decide +kernel
theorem dX8_count_190 : decode cX8_count 190 = .ok (.iconst (-1), 1) := by decide +kernel
theorem dX8_count_191 : decode cX8_count 191 = .ok (.ireturn, 1) := by decide +kernel
set_option maxRecDepth 20000 in
theorem ggX8_isHeap_X8_isWithin : GoodIn wsX8_isHeap wsX8_isWithin := goodIn_r _ [6] (by decide +kernel) (by decide +kernel)
set_option maxRecDepth 20000 in
theorem gX8_isHeap_X8_isWithin : GoodIn wsX8_isHeap (va_wsS RX8 91 yX8_isWithin wsX8_isWithin) := goodIn_app (goodIn_of _ (by decide +kernel)) ggX8_isHeap_X8_isWithin
theorem dX8_isHeap_0 : decode cX8_isHeap 0 = .ok (.iload_n 1, 1) := by decide +kernel
theorem dX8_isHeap_1 : decode cX8_isHeap 1 = .ok (.iconst 0, 1) := by decide +kernel
theorem dX8_isHeap_2 : decode cX8_isHeap 2 = .ok (.aload_n 0, 1) := by decide +kernel
theorem dX8_isHeap_3 : decode cX8_isHeap 3 = .ok (.getfield 19, 3) := by decide +kernel
theorem dX8_isHeap_6 : decode cX8_isHeap 6 = .ok (.getfield 99, 3) := by decide +kernel
theorem dX8_isHeap_9 : decode cX8_isHeap 9 = .ok (.iconst 1, 1) := by decide +kernel
theorem dX8_isHeap_10 : decode cX8_isHeap 10 = .ok (.isub, 1) := by decide +kernel
theorem dX8_isHeap_11 : decode cX8_isHeap 11 = .ok (.invokestatic 91, 3) := by decide +kernel
theorem dX8_isHeap_14 : decode cX8_isHeap 14 = .ok (.ireturn, 1) := by decide +kernel
set_option maxRecDepth 20000 in
theorem ggX8_isCourse_X8_isWithin : GoodIn wsX8_isCourse wsX8_isWithin := goodIn_r _ [6] (by decide +kernel) (by decide +kernel)
set_option maxRecDepth 20000 in
theorem gX8_isCourse_X8_isWithin : GoodIn wsX8_isCourse (va_wsS RX8 91 yX8_isWithin wsX8_isWithin) := goodIn_app (goodIn_of _ (by decide +kernel)) ggX8_isCourse_X8_isWithin
theorem dX8_isCourse_0 : decode cX8_isCourse 0 = .ok (.iload_n 1, 1) := by decide +kernel
theorem dX8_isCourse_1 : decode cX8_isCourse 1 = .ok (.iconst 0, 1) := by decide +kernel
theorem dX8_isCourse_2 : decode cX8_isCourse 2 = .ok (.aload_n 0, 1) := by decide +kernel
theorem dX8_isCourse_3 : decode cX8_isCourse 3 = .ok (.getfield 38, 3) := by decide +kernel
theorem dX8_isCourse_6 : decode cX8_isCourse 6 = .ok (.getfield 124, 3) := by decide +kernel
theorem dX8_isCourse_9 : decode cX8_isCourse 9 = .ok (.iconst 1, 1) := by decide +kernel
theorem dX8_isCourse_10 : decode cX8_isCourse 10 = .ok (.isub, 1) := by decide +kernel
theorem dX8_isCourse_11 : decode cX8_isCourse 11 = .ok (.invokestatic 91, 3) := by decide +kernel
theorem dX8_isCourse_14 : decode cX8_isCourse 14 = .ok (.ireturn, 1) := by decide +kernel
set_option maxRecDepth 20000 in
theorem ggX8_fillTrial_X6_last : GoodIn wsX8_fillTrial wsX6_last := goodIn_r _ [10, 11, 12, 13, 135, 136, 137, 138, 139] (by decide +kernel) (by decide +kernel)
set_option maxRecDepth 20000 in
theorem gX8_fillTrial_X6_last : GoodIn wsX8_fillTrial (wsV RX8 204 RX6 yX6_last wsX6_last) := goodIn_app (goodIn_of _ (by decide +kernel)) ggX8_fillTrial_X6_last
set_option maxRecDepth 20000 in
theorem ggX8_fillTrial_X6_isOpen : GoodIn wsX8_fillTrial wsX6_isOpen := goodIn_r _ [17, 11, 18, 19, 7, 8, 9, 10, 12, 13, 20, 21, 22, 23, 24, 25, 26, 27, 28, 29, 30, 31, 32, 135, 136, 137, 138, 139, 140, 141, 142, 143, 144, 145, 146, 147, 148, 126, 127, 128, 129, 130, 131, 132, 133, 134] (by decide +kernel) (by decide +kernel)
set_option maxRecDepth 20000 in
theorem gX8_fillTrial_X6_isOpen : GoodIn wsX8_fillTrial (wsV RX8 200 RX6 yX6_isOpen wsX6_isOpen) := goodIn_app (goodIn_of _ (by decide +kernel)) ggX8_fillTrial_X6_isOpen
set_option maxRecDepth 20000 in
theorem ggX8_fillTrial_X4_fill : GoodIn wsX8_fillTrial wsX4_fill := goodIn_r _ [37, 38, 39, 40, 41, 42, 43, 44, 45, 46, 47, 27, 28, 29, 30, 31, 32, 48, 49, 50, 23, 51, 52, 53, 54, 55, 56, 57, 58, 59, 60, 61, 62, 63, 64, 65, 66, 67, 68, 69, 70, 71, 72, 73, 74, 75, 76, 77, 78, 79, 36, 80, 81, 82, 83, 84, 85, 86, 87, 88, 89, 90, 91, 92, 93, 94, 95, 96, 97, 98, 99, 100, 101, 102, 103, 104, 105, 106, 107, 108, 109, 110, 111, 112, 113, 114, 115, 116, 117, 149, 150, 126, 127, 128, 129, 130, 131, 132, 133, 134, 140, 141, 142, 143, 144, 145, 146, 147, 148] (by decide +kernel) (by decide +kernel)
set_option maxRecDepth 20000 in
theorem gX8_fillTrial_X4_fill : GoodIn wsX8_fillTrial (wsV RX8 250 RX4 yX4_fill wsX4_fill) := goodIn_app (goodIn_of _ (by decide +kernel)) ggX8_fillTrial_X4_fill
theorem dX8_fillTrial_0 : decode cX8_fillTrial 0 = .ok (.aload_n 0, 1) := by decide +kernel
theorem dX8_fillTrial_1 : decode cX8_fillTrial 1 = .ok (.getfield 38, 3) := by decide +kernel
theorem dX8_fillTrial_4 : decode cX8_fillTrial 4 = .ok (.invokevirtual 204, 3) := by decide +kernel
theorem dX8_fillTrial_7 : decode cX8_fillTrial 7 = .ok (.astore_n 2, 1) := by decide +kernel
theorem dX8_fillTrial_8 : decode cX8_fillTrial 8 = .ok (.aload_n 0, 1) := by decide +kernel
theorem dX8_fillTrial_9 : decode cX8_fillTrial 9 = .ok (.getfield 38, 3) := by decide +kernel
theorem dX8_fillTrial_12 : decode cX8_fillTrial 12 = .ok (.invokevirtual 200, 3) := by decide +kernel
theorem dX8_fillTrial_15 : decode cX8_fillTrial 15 = .ok (.ifCond .eq 38, 3) := by decide +kernel
theorem dX8_fillTrial_18 : decode cX8_fillTrial 18 = .ok (.iload_n 1, 1) := by decide +kernel
theorem dX8_fillTrial_19 : decode cX8_fillTrial 19 = .ok (.aload_n 2, 1) := by decide +kernel
theorem dX8_fillTrial_20 : decode cX8_fillTrial 20 = .ok (.getfield 168, 3) := by decide +kernel
theorem dX8_fillTrial_23 : decode cX8_fillTrial 23 = .ok (.if_icmp .gt 30, 3) := by decide +kernel
theorem dX8_fillTrial_26 : decode cX8_fillTrial 26 = .ok (.aload_n 0, 1) := by decide +kernel
theorem dX8_fillTrial_27 : decode cX8_fillTrial 27 = .ok (.getfield 31, 3) := by decide +kernel
theorem dX8_fillTrial_30 : decode cX8_fillTrial 30 = .ok (.aload_n 0, 1) := by decide +kernel
theorem dX8_fillTrial_31 : decode cX8_fillTrial 31 = .ok (.getfield 61, 3) := by decide +kernel
theorem dX8_fillTrial_34 : decode cX8_fillTrial 34 = .ok (.iload_n 1, 1) := by decide +kernel
theorem dX8_fillTrial_35 : decode cX8_fillTrial 35 = .ok (.aload_n 0, 1) := by decide +kernel
theorem dX8_fillTrial_36 : decode cX8_fillTrial 36 = .ok (.getfield 38, 3) := by decide +kernel
theorem dX8_fillTrial_39 : decode cX8_fillTrial 39 = .ok (.getfield 132, 3) := by decide +kernel
theorem dX8_fillTrial_42 : decode cX8_fillTrial 42 = .ok (.aload_n 2, 1) := by decide +kernel
theorem dX8_fillTrial_43 : decode cX8_fillTrial 43 = .ok (.invokevirtual 250, 3) := by decide +kernel
theorem dX8_fillTrial_46 : decode cX8_fillTrial 46 = .ok (.ifCond .eq 7, 3) := by decide +kernel
theorem dX8_fillTrial_49 : decode cX8_fillTrial 49 = .ok (.iconst 1, 1) := by decide +kernel
theorem dX8_fillTrial_50 : decode cX8_fillTrial 50 = .ok (.goto 4, 3) := by decide +kernel
theorem dX8_fillTrial_53 : decode cX8_fillTrial 53 = .ok (.iconst 0, 1) := by decide +kernel
theorem dX8_fillTrial_54 : decode cX8_fillTrial 54 = .ok (.ireturn, 1) := by decide +kernel
theorem dX8_isWithin_0 : decode cX8_isWithin 0 = .ok (.iload_n 0, 1) := by decide +kernel
theorem dX8_isWithin_1 : decode cX8_isWithin 1 = .ok (.iload_n 1, 1) := by decide +kernel
theorem dX8_isWithin_2 : decode cX8_isWithin 2 = .ok (.if_icmp .lt 12, 3) := by decide +kernel
theorem dX8_isWithin_5 : decode cX8_isWithin 5 = .ok (.iload_n 0, 1) := by decide +kernel
theorem dX8_isWithin_6 : decode cX8_isWithin 6 = .ok (.iload_n 2, 1) := by decide +kernel
theorem dX8_isWithin_7 : decode cX8_isWithin 7 = .ok (.if_icmp .gt 7, 3) := by decide +kernel
theorem dX8_isWithin_10 : decode cX8_isWithin 10 = .ok (.iconst 1, 1) := by decide +kernel
theorem dX8_isWithin_11 : decode cX8_isWithin 11 = .ok (.goto 4, 3) := by decide +kernel
theorem dX8_isWithin_14 : decode cX8_isWithin 14 = .ok (.iconst 0, 1) := by decide +kernel
theorem dX8_isWithin_15 : decode cX8_isWithin 15 = .ok (.ireturn, 1) := by decide +kernel
set_option maxRecDepth 20000 in
theorem ggX9_init_X9_beginRead : GoodIn wsX9_init wsX9_beginRead := goodIn_r _ [19, 20, 7, 31, 32, 33, 34, 35, 36, 37, 38, 39, 40, 41, 42, 43, 44, 45, 46, 47, 48] (by decide +kernel) (by decide +kernel)
set_option maxRecDepth 20000 in
theorem gX9_init_X9_beginRead : GoodIn wsX9_init (wsV RX9 40 RX9 yX9_beginRead wsX9_beginRead) := goodIn_app (goodIn_of _ (by decide +kernel)) ggX9_init_X9_beginRead
set_option maxRecDepth 20000 in
theorem ggX9_init_X9_addHeap : GoodIn wsX9_init wsX9_addHeap := goodIn_r _ [24, 20, 9, 31, 32, 33, 34, 35, 36, 37, 38, 39, 40, 41, 42, 43, 44, 45, 46, 47, 48] (by decide +kernel) (by decide +kernel)
set_option maxRecDepth 20000 in
theorem gX9_init_X9_addHeap : GoodIn wsX9_init (wsV RX9 43 RX9 yX9_addHeap wsX9_addHeap) := goodIn_app (goodIn_of _ (by decide +kernel)) ggX9_init_X9_addHeap
set_option maxRecDepth 20000 in
theorem ggX9_init_X9_takeRead : GoodIn wsX9_init wsX9_takeRead := goodIn_r _ [28, 20, 29, 9, 8, 6, 7, 10, 30, 31, 32, 33, 34, 35, 36, 37, 38, 39, 40, 41, 42, 43, 44, 45, 46, 47, 48] (by decide +kernel) (by decide +kernel)
set_option maxRecDepth 20000 in
theorem gX9_init_X9_takeRead : GoodIn wsX9_init (wsV RX9 47 RX9 yX9_takeRead wsX9_takeRead) := goodIn_app (goodIn_of _ (by decide +kernel)) ggX9_init_X9_takeRead
theorem dX9_init_0 : decode cX9_init 0 = .ok (.aload_n 0, 1) := by decide +kernel
theorem dX9_init_1 : decode cX9_init 1 = .ok (.invokespecial 1, 3) := by decide +kernel
theorem dX9_init_4 : decode cX9_init 4 = .ok (.aload_n 0, 1) := by decide +kernel
theorem dX9_init_5 : decode cX9_init 5 = .ok (.sipush 200, 3) := by decide +kernel
theorem dX9_init_8 : decode cX9_init 8 = .ok (.newarray .int, 2) := by decide +kernel
theorem dX9_init_10 : decode cX9_init 10 = .ok (.putfield 7, 3) := by decide +kernel
theorem dX9_init_13 : decode cX9_init 13 = .ok (.aload_n 0, 1) := by decide +kernel
theorem dX9_init_14 : decode cX9_init 14 = .ok (.iconst 5, 1) := by decide +kernel
theorem dX9_init_15 : decode cX9_init 15 = .ok (.newarray .int, 2) := by decide +kernel
theorem dX9_init_17 : decode cX9_init 17 = .ok (.putfield 13, 3) := by decide +kernel
theorem dX9_init_20 : decode cX9_init 20 = .ok (.aload_n 0, 1) := by decide +kernel
theorem dX9_init_21 : decode cX9_init 21 = .ok (.iconst 5, 1) := by decide +kernel
theorem dX9_init_22 : decode cX9_init 22 = .ok (.newarray .int, 2) := by decide +kernel
theorem dX9_init_24 : decode cX9_init 24 = .ok (.putfield 16, 3) := by decide +kernel
theorem dX9_init_27 : decode cX9_init 27 = .ok (.aload_n 0, 1) := by decide +kernel
theorem dX9_init_28 : decode cX9_init 28 = .ok (.bipush 24, 2) := by decide +kernel
theorem dX9_init_30 : decode cX9_init 30 = .ok (.newarray .int, 2) := by decide +kernel
theorem dX9_init_32 : decode cX9_init 32 = .ok (.putfield 19, 3) := by decide +kernel
theorem dX9_init_35 : decode cX9_init 35 = .ok (.aload_n 0, 1) := by decide +kernel
theorem dX9_init_36 : decode cX9_init 36 = .ok (.bipush 24, 2) := by decide +kernel
theorem dX9_init_38 : decode cX9_init 38 = .ok (.newarray .int, 2) := by decide +kernel
theorem dX9_init_40 : decode cX9_init 40 = .ok (.putfield 22, 3) := by decide +kernel
theorem dX9_init_43 : decode cX9_init 43 = .ok (.aload_n 0, 1) := by decide +kernel
theorem dX9_init_44 : decode cX9_init 44 = .ok (.sipush 1249, 3) := by decide +kernel
theorem dX9_init_47 : decode cX9_init 47 = .ok (.newarray .int, 2) := by decide +kernel
theorem dX9_init_49 : decode cX9_init 49 = .ok (.putfield 25, 3) := by decide +kernel
theorem dX9_init_52 : decode cX9_init 52 = .ok (.aload_n 0, 1) := by decide +kernel
theorem dX9_init_53 : decode cX9_init 53 = .ok (.sipush 1249, 3) := by decide +kernel
theorem dX9_init_56 : decode cX9_init 56 = .ok (.newarray .int, 2) := by decide +kernel
theorem dX9_init_58 : decode cX9_init 58 = .ok (.putfield 28, 3) := by decide +kernel
theorem dX9_init_61 : decode cX9_init 61 = .ok (.aload_n 0, 1) := by decide +kernel
theorem dX9_init_62 : decode cX9_init 62 = .ok (.sipush 7494, 3) := by decide +kernel
theorem dX9_init_65 : decode cX9_init 65 = .ok (.newarray .int, 2) := by decide +kernel
theorem dX9_init_67 : decode cX9_init 67 = .ok (.putfield 31, 3) := by decide +kernel
theorem dX9_init_70 : decode cX9_init 70 = .ok (.aload_n 0, 1) := by decide +kernel
theorem dX9_init_71 : decode cX9_init 71 = .ok (.iconst 3, 1) := by decide +kernel
theorem dX9_init_72 : decode cX9_init 72 = .ok (.newarray .int, 2) := by decide +kernel
theorem dX9_init_74 : decode cX9_init 74 = .ok (.putfield 34, 3) := by decide +kernel
theorem dX9_init_77 : decode cX9_init 77 = .ok (.aload_n 0, 1) := by decide +kernel
theorem dX9_init_78 : decode cX9_init 78 = .ok (.bipush 60, 2) := by decide +kernel
theorem dX9_init_80 : decode cX9_init 80 = .ok (.newarray .int, 2) := by decide +kernel
theorem dX9_init_82 : decode cX9_init 82 = .ok (.putfield 37, 3) := by decide +kernel
theorem dX9_init_85 : decode cX9_init 85 = .ok (.aload_n 0, 1) := by decide +kernel
theorem dX9_init_86 : decode cX9_init 86 = .ok (.invokevirtual 40, 3) := by decide +kernel
theorem dX9_init_89 : decode cX9_init 89 = .ok (.aload_n 0, 1) := by decide +kernel
theorem dX9_init_90 : decode cX9_init 90 = .ok (.bipush 40, 2) := by decide +kernel
theorem dX9_init_92 : decode cX9_init 92 = .ok (.bipush 30, 2) := by decide +kernel
theorem dX9_init_94 : decode cX9_init 94 = .ok (.bipush 30, 2) := by decide +kernel
theorem dX9_init_96 : decode cX9_init 96 = .ok (.invokevirtual 43, 3) := by decide +kernel
theorem dX9_init_99 : decode cX9_init 99 = .ok (.pop, 1) := by decide +kernel
theorem dX9_init_100 : decode cX9_init 100 = .ok (.aload_n 0, 1) := by decide +kernel
theorem dX9_init_101 : decode cX9_init 101 = .ok (.bipush 40, 2) := by decide +kernel
theorem dX9_init_103 : decode cX9_init 103 = .ok (.bipush 22, 2) := by decide +kernel
theorem dX9_init_105 : decode cX9_init 105 = .ok (.bipush 30, 2) := by decide +kernel
theorem dX9_init_107 : decode cX9_init 107 = .ok (.invokevirtual 43, 3) := by decide +kernel
theorem dX9_init_110 : decode cX9_init 110 = .ok (.pop, 1) := by decide +kernel
theorem dX9_init_111 : decode cX9_init 111 = .ok (.aload_n 0, 1) := by decide +kernel
theorem dX9_init_112 : decode cX9_init 112 = .ok (.bipush 40, 2) := by decide +kernel
theorem dX9_init_114 : decode cX9_init 114 = .ok (.bipush 17, 2) := by decide +kernel
theorem dX9_init_116 : decode cX9_init 116 = .ok (.bipush 9, 2) := by decide +kernel
theorem dX9_init_118 : decode cX9_init 118 = .ok (.invokevirtual 43, 3) := by decide +kernel
theorem dX9_init_121 : decode cX9_init 121 = .ok (.pop, 1) := by decide +kernel
theorem dX9_init_122 : decode cX9_init 122 = .ok (.aload_n 0, 1) := by decide +kernel
theorem dX9_init_123 : decode cX9_init 123 = .ok (.bipush 30, 2) := by decide +kernel
theorem dX9_init_125 : decode cX9_init 125 = .ok (.bipush 25, 2) := by decide +kernel
theorem dX9_init_127 : decode cX9_init 127 = .ok (.bipush 40, 2) := by decide +kernel
theorem dX9_init_129 : decode cX9_init 129 = .ok (.invokevirtual 43, 3) := by decide +kernel
theorem dX9_init_132 : decode cX9_init 132 = .ok (.pop, 1) := by decide +kernel
theorem dX9_init_133 : decode cX9_init 133 = .ok (.aload_n 0, 1) := by decide +kernel
theorem dX9_init_134 : decode cX9_init 134 = .ok (.bipush 30, 2) := by decide +kernel
theorem dX9_init_136 : decode cX9_init 136 = .ok (.bipush 18, 2) := by decide +kernel
theorem dX9_init_138 : decode cX9_init 138 = .ok (.bipush 40, 2) := by decide +kernel
theorem dX9_init_140 : decode cX9_init 140 = .ok (.invokevirtual 43, 3) := by decide +kernel
theorem dX9_init_143 : decode cX9_init 143 = .ok (.pop, 1) := by decide +kernel
theorem dX9_init_144 : decode cX9_init 144 = .ok (.aload_n 0, 1) := by decide +kernel
theorem dX9_init_145 : decode cX9_init 145 = .ok (.bipush 24, 2) := by decide +kernel
theorem dX9_init_147 : decode cX9_init 147 = .ok (.bipush 20, 2) := by decide +kernel
theorem dX9_init_149 : decode cX9_init 149 = .ok (.bipush 60, 2) := by decide +kernel
theorem dX9_init_151 : decode cX9_init 151 = .ok (.invokevirtual 43, 3) := by decide +kernel
theorem dX9_init_154 : decode cX9_init 154 = .ok (.pop, 1) := by decide +kernel
theorem dX9_init_155 : decode cX9_init 155 = .ok (.aload_n 0, 1) := by decide +kernel
theorem dX9_init_156 : decode cX9_init 156 = .ok (.bipush 24, 2) := by decide +kernel
theorem dX9_init_158 : decode cX9_init 158 = .ok (.bipush 11, 2) := by decide +kernel
theorem dX9_init_160 : decode cX9_init 160 = .ok (.bipush 30, 2) := by decide +kernel
theorem dX9_init_162 : decode cX9_init 162 = .ok (.invokevirtual 43, 3) := by decide +kernel
theorem dX9_init_165 : decode cX9_init 165 = .ok (.pop, 1) := by decide +kernel
theorem dX9_init_166 : decode cX9_init 166 = .ok (.aload_n 0, 1) := by decide +kernel
theorem dX9_init_167 : decode cX9_init 167 = .ok (.getfield 16, 3) := by decide +kernel
theorem dX9_init_170 : decode cX9_init 170 = .ok (.iconst 0, 1) := by decide +kernel
theorem dX9_init_171 : decode cX9_init 171 = .ok (.bipush 110, 2) := by decide +kernel
theorem dX9_init_173 : decode cX9_init 173 = .ok (.iastore, 1) := by decide +kernel
theorem dX9_init_174 : decode cX9_init 174 = .ok (.aload_n 0, 1) := by decide +kernel
theorem dX9_init_175 : decode cX9_init 175 = .ok (.getfield 16, 3) := by decide +kernel
theorem dX9_init_178 : decode cX9_init 178 = .ok (.iconst 1, 1) := by decide +kernel
theorem dX9_init_179 : decode cX9_init 179 = .ok (.sipush 130, 3) := by decide +kernel
theorem dX9_init_182 : decode cX9_init 182 = .ok (.iastore, 1) := by decide +kernel
theorem dX9_init_183 : decode cX9_init 183 = .ok (.aload_n 0, 1) := by decide +kernel
theorem dX9_init_184 : decode cX9_init 184 = .ok (.getfield 16, 3) := by decide +kernel
theorem dX9_init_187 : decode cX9_init 187 = .ok (.iconst 4, 1) := by decide +kernel
theorem dX9_init_188 : decode cX9_init 188 = .ok (.iconst 2, 1) := by decide +kernel
theorem dX9_init_189 : decode cX9_init 189 = .ok (.iastore, 1) := by decide +kernel
theorem dX9_init_190 : decode cX9_init 190 = .ok (.aload_n 0, 1) := by decide +kernel
theorem dX9_init_191 : decode cX9_init 191 = .ok (.invokevirtual 47, 3) := by decide +kernel
theorem dX9_init_194 : decode cX9_init 194 = .ok (.return_, 1) := by decide +kernel
theorem dX9_in_0 : decode cX9_in 0 = .ok (.iload_n 0, 1) := by decide +kernel
theorem dX9_in_1 : decode cX9_in 1 = .ok (.iload_n 1, 1) := by decide +kernel
theorem dX9_in_2 : decode cX9_in 2 = .ok (.if_icmp .lt 12, 3) := by decide +kernel
theorem dX9_in_5 : decode cX9_in 5 = .ok (.iload_n 0, 1) := by decide +kernel
theorem dX9_in_6 : decode cX9_in 6 = .ok (.iload_n 2, 1) := by decide +kernel
theorem dX9_in_7 : decode cX9_in 7 = .ok (.if_icmp .gt 7, 3) := by decide +kernel
theorem dX9_in_10 : decode cX9_in 10 = .ok (.iconst 1, 1) := by decide +kernel
theorem dX9_in_11 : decode cX9_in 11 = .ok (.goto 4, 3) := by decide +kernel
theorem dX9_in_14 : decode cX9_in 14 = .ok (.iconst 0, 1) := by decide +kernel
theorem dX9_in_15 : decode cX9_in 15 = .ok (.ireturn, 1) := by decide +kernel
theorem dX9_copyState_0 : decode cX9_copyState 0 = .ok (.iconst 0, 1) := by decide +kernel
theorem dX9_copyState_1 : decode cX9_copyState 1 = .ok (.istore 4, 2) := by decide +kernel
theorem dX9_copyState_3 : decode cX9_copyState 3 = .ok (.iload 4, 2) := by decide +kernel
theorem dX9_copyState_5 : decode cX9_copyState 5 = .ok (.sipush 1249, 3) := by decide +kernel
theorem dX9_copyState_8 : decode cX9_copyState 8 = .ok (.if_icmp .ge 21, 3) := by decide +kernel
theorem dX9_copyState_11 : decode cX9_copyState 11 = .ok (.aload_n 2, 1) := by decide +kernel
theorem dX9_copyState_12 : decode cX9_copyState 12 = .ok (.iload_n 3, 1) := by decide +kernel
theorem dX9_copyState_13 : decode cX9_copyState 13 = .ok (.iload 4, 2) := by decide +kernel
theorem dX9_copyState_15 : decode cX9_copyState 15 = .ok (.iadd, 1) := by decide +kernel
theorem dX9_copyState_16 : decode cX9_copyState 16 = .ok (.aload_n 0, 1) := by decide +kernel
theorem dX9_copyState_17 : decode cX9_copyState 17 = .ok (.iload_n 1, 1) := by decide +kernel
theorem dX9_copyState_18 : decode cX9_copyState 18 = .ok (.iload 4, 2) := by decide +kernel
theorem dX9_copyState_20 : decode cX9_copyState 20 = .ok (.iadd, 1) := by decide +kernel
theorem dX9_copyState_21 : decode cX9_copyState 21 = .ok (.iaload, 1) := by decide +kernel
theorem dX9_copyState_22 : decode cX9_copyState 22 = .ok (.iastore, 1) := by decide +kernel
theorem dX9_copyState_23 : decode cX9_copyState 23 = .ok (.iinc 4 1, 3) := by decide +kernel
theorem dX9_copyState_26 : decode cX9_copyState 26 = .ok (.goto (-23), 3) := by decide +kernel
theorem dX9_copyState_29 : decode cX9_copyState 29 = .ok (.return_, 1) := by decide +kernel
theorem dX9_beginRead_0 : decode cX9_beginRead 0 = .ok (.aload_n 0, 1) := by decide +kernel
theorem dX9_beginRead_1 : decode cX9_beginRead 1 = .ok (.iconst 0, 1) := by decide +kernel
theorem dX9_beginRead_2 : decode cX9_beginRead 2 = .ok (.putfield 50, 3) := by decide +kernel
theorem dX9_beginRead_5 : decode cX9_beginRead 5 = .ok (.aload_n 0, 1) := by decide +kernel
theorem dX9_beginRead_6 : decode cX9_beginRead 6 = .ok (.getfield 16, 3) := by decide +kernel
theorem dX9_beginRead_9 : decode cX9_beginRead 9 = .ok (.iconst 0, 1) := by decide +kernel
theorem dX9_beginRead_10 : decode cX9_beginRead 10 = .ok (.bipush 100, 2) := by decide +kernel
theorem dX9_beginRead_12 : decode cX9_beginRead 12 = .ok (.iastore, 1) := by decide +kernel
theorem dX9_beginRead_13 : decode cX9_beginRead 13 = .ok (.aload_n 0, 1) := by decide +kernel
theorem dX9_beginRead_14 : decode cX9_beginRead 14 = .ok (.getfield 16, 3) := by decide +kernel
theorem dX9_beginRead_17 : decode cX9_beginRead 17 = .ok (.iconst 1, 1) := by decide +kernel
theorem dX9_beginRead_18 : decode cX9_beginRead 18 = .ok (.bipush 120, 2) := by decide +kernel
theorem dX9_beginRead_20 : decode cX9_beginRead 20 = .ok (.iastore, 1) := by decide +kernel
theorem dX9_beginRead_21 : decode cX9_beginRead 21 = .ok (.aload_n 0, 1) := by decide +kernel
theorem dX9_beginRead_22 : decode cX9_beginRead 22 = .ok (.getfield 16, 3) := by decide +kernel
theorem dX9_beginRead_25 : decode cX9_beginRead 25 = .ok (.iconst 2, 1) := by decide +kernel
theorem dX9_beginRead_26 : decode cX9_beginRead 26 = .ok (.bipush 6, 2) := by decide +kernel
theorem dX9_beginRead_28 : decode cX9_beginRead 28 = .ok (.iastore, 1) := by decide +kernel
theorem dX9_beginRead_29 : decode cX9_beginRead 29 = .ok (.aload_n 0, 1) := by decide +kernel
theorem dX9_beginRead_30 : decode cX9_beginRead 30 = .ok (.getfield 16, 3) := by decide +kernel
theorem dX9_beginRead_33 : decode cX9_beginRead 33 = .ok (.iconst 3, 1) := by decide +kernel
theorem dX9_beginRead_34 : decode cX9_beginRead 34 = .ok (.iconst 4, 1) := by decide +kernel
theorem dX9_beginRead_35 : decode cX9_beginRead 35 = .ok (.iastore, 1) := by decide +kernel
theorem dX9_beginRead_36 : decode cX9_beginRead 36 = .ok (.aload_n 0, 1) := by decide +kernel
theorem dX9_beginRead_37 : decode cX9_beginRead 37 = .ok (.getfield 16, 3) := by decide +kernel
theorem dX9_beginRead_40 : decode cX9_beginRead 40 = .ok (.iconst 4, 1) := by decide +kernel
theorem dX9_beginRead_41 : decode cX9_beginRead 41 = .ok (.iconst 0, 1) := by decide +kernel
theorem dX9_beginRead_42 : decode cX9_beginRead 42 = .ok (.iastore, 1) := by decide +kernel
theorem dX9_beginRead_43 : decode cX9_beginRead 43 = .ok (.return_, 1) := by decide +kernel
theorem dX9_addHeap_0 : decode cX9_addHeap 0 = .ok (.iconst 0, 1) := by decide +kernel
theorem dX9_addHeap_1 : decode cX9_addHeap 1 = .ok (.istore 4, 2) := by decide +kernel
theorem dX9_addHeap_3 : decode cX9_addHeap 3 = .ok (.iload 4, 2) := by decide +kernel
theorem dX9_addHeap_5 : decode cX9_addHeap 5 = .ok (.aload_n 0, 1) := by decide +kernel
theorem dX9_addHeap_6 : decode cX9_addHeap 6 = .ok (.getfield 50, 3) := by decide +kernel
theorem dX9_addHeap_9 : decode cX9_addHeap 9 = .ok (.if_icmp .ge 37, 3) := by decide +kernel
theorem dX9_addHeap_12 : decode cX9_addHeap 12 = .ok (.aload_n 0, 1) := by decide +kernel
theorem dX9_addHeap_13 : decode cX9_addHeap 13 = .ok (.getfield 22, 3) := by decide +kernel
theorem dX9_addHeap_16 : decode cX9_addHeap 16 = .ok (.iconst 3, 1) := by decide +kernel
theorem dX9_addHeap_17 : decode cX9_addHeap 17 = .ok (.iload 4, 2) := by decide +kernel
theorem dX9_addHeap_19 : decode cX9_addHeap 19 = .ok (.imul, 1) := by decide +kernel
theorem dX9_addHeap_20 : decode cX9_addHeap 20 = .ok (.iaload, 1) := by decide +kernel
theorem dX9_addHeap_21 : decode cX9_addHeap 21 = .ok (.iload_n 1, 1) := by decide +kernel
theorem dX9_addHeap_22 : decode cX9_addHeap 22 = .ok (.if_icmp .ne 18, 3) := by decide +kernel
theorem dX9_addHeap_25 : decode cX9_addHeap 25 = .ok (.aload_n 0, 1) := by decide +kernel
theorem dX9_addHeap_26 : decode cX9_addHeap 26 = .ok (.getfield 22, 3) := by decide +kernel
theorem dX9_addHeap_29 : decode cX9_addHeap 29 = .ok (.iconst 3, 1) := by decide +kernel
theorem dX9_addHeap_30 : decode cX9_addHeap 30 = .ok (.iload 4, 2) := by decide +kernel
theorem dX9_addHeap_32 : decode cX9_addHeap 32 = .ok (.imul, 1) := by decide +kernel
theorem dX9_addHeap_33 : decode cX9_addHeap 33 = .ok (.iconst 1, 1) := by decide +kernel
theorem dX9_addHeap_34 : decode cX9_addHeap 34 = .ok (.iadd, 1) := by decide +kernel
theorem dX9_addHeap_35 : decode cX9_addHeap 35 = .ok (.iaload, 1) := by decide +kernel
theorem dX9_addHeap_36 : decode cX9_addHeap 36 = .ok (.iload_n 2, 1) := by decide +kernel
theorem dX9_addHeap_37 : decode cX9_addHeap 37 = .ok (.if_icmp .eq 9, 3) := by decide +kernel
theorem dX9_addHeap_40 : decode cX9_addHeap 40 = .ok (.iinc 4 1, 3) := by decide +kernel
theorem dX9_addHeap_43 : decode cX9_addHeap 43 = .ok (.goto (-40), 3) := by decide +kernel
theorem dX9_addHeap_46 : decode cX9_addHeap 46 = .ok (.iload 4, 2) := by decide +kernel
theorem dX9_addHeap_48 : decode cX9_addHeap 48 = .ok (.bipush 8, 2) := by decide +kernel
theorem dX9_addHeap_50 : decode cX9_addHeap 50 = .ok (.if_icmp .eq 31, 3) := by decide +kernel
theorem dX9_addHeap_53 : decode cX9_addHeap 53 = .ok (.iload 4, 2) := by decide +kernel
theorem dX9_addHeap_55 : decode cX9_addHeap 55 = .ok (.aload_n 0, 1) := by decide +kernel
theorem dX9_addHeap_56 : decode cX9_addHeap 56 = .ok (.getfield 50, 3) := by decide +kernel
theorem dX9_addHeap_59 : decode cX9_addHeap 59 = .ok (.if_icmp .ge 24, 3) := by decide +kernel
theorem dX9_addHeap_62 : decode cX9_addHeap 62 = .ok (.aload_n 0, 1) := by decide +kernel
theorem dX9_addHeap_63 : decode cX9_addHeap 63 = .ok (.getfield 22, 3) := by decide +kernel
theorem dX9_addHeap_66 : decode cX9_addHeap 66 = .ok (.iconst 3, 1) := by decide +kernel
theorem dX9_addHeap_67 : decode cX9_addHeap 67 = .ok (.iload 4, 2) := by decide +kernel
theorem dX9_addHeap_69 : decode cX9_addHeap 69 = .ok (.imul, 1) := by decide +kernel
theorem dX9_addHeap_70 : decode cX9_addHeap 70 = .ok (.iconst 2, 1) := by decide +kernel
theorem dX9_addHeap_71 : decode cX9_addHeap 71 = .ok (.iadd, 1) := by decide +kernel
theorem dX9_addHeap_72 : decode cX9_addHeap 72 = .ok (.iaload, 1) := by decide +kernel
theorem dX9_addHeap_73 : decode cX9_addHeap 73 = .ok (.iload_n 3, 1) := by decide +kernel
theorem dX9_addHeap_74 : decode cX9_addHeap 74 = .ok (.iadd, 1) := by decide +kernel
theorem dX9_addHeap_75 : decode cX9_addHeap 75 = .ok (.sipush 999, 3) := by decide +kernel
theorem dX9_addHeap_78 : decode cX9_addHeap 78 = .ok (.if_icmp .le 5, 3) := by decide +kernel
theorem dX9_addHeap_81 : decode cX9_addHeap 81 = .ok (.iconst 0, 1) := by decide +kernel
theorem dX9_addHeap_82 : decode cX9_addHeap 82 = .ok (.ireturn, 1) := by decide +kernel
theorem dX9_addHeap_83 : decode cX9_addHeap 83 = .ok (.aload_n 0, 1) := by decide +kernel
theorem dX9_addHeap_84 : decode cX9_addHeap 84 = .ok (.getfield 22, 3) := by decide +kernel
theorem dX9_addHeap_87 : decode cX9_addHeap 87 = .ok (.iconst 3, 1) := by decide +kernel
theorem dX9_addHeap_88 : decode cX9_addHeap 88 = .ok (.iload 4, 2) := by decide +kernel
theorem dX9_addHeap_90 : decode cX9_addHeap 90 = .ok (.imul, 1) := by decide +kernel
theorem dX9_addHeap_91 : decode cX9_addHeap 91 = .ok (.iload_n 1, 1) := by decide +kernel
theorem dX9_addHeap_92 : decode cX9_addHeap 92 = .ok (.iastore, 1) := by decide +kernel
theorem dX9_addHeap_93 : decode cX9_addHeap 93 = .ok (.aload_n 0, 1) := by decide +kernel
theorem dX9_addHeap_94 : decode cX9_addHeap 94 = .ok (.getfield 22, 3) := by decide +kernel
theorem dX9_addHeap_97 : decode cX9_addHeap 97 = .ok (.iconst 3, 1) := by decide +kernel
theorem dX9_addHeap_98 : decode cX9_addHeap 98 = .ok (.iload 4, 2) := by decide +kernel
theorem dX9_addHeap_100 : decode cX9_addHeap 100 = .ok (.imul, 1) := by decide +kernel
theorem dX9_addHeap_101 : decode cX9_addHeap 101 = .ok (.iconst 1, 1) := by decide +kernel
theorem dX9_addHeap_102 : decode cX9_addHeap 102 = .ok (.iadd, 1) := by decide +kernel
theorem dX9_addHeap_103 : decode cX9_addHeap 103 = .ok (.iload_n 2, 1) := by decide +kernel
theorem dX9_addHeap_104 : decode cX9_addHeap 104 = .ok (.iastore, 1) := by decide +kernel
theorem dX9_addHeap_105 : decode cX9_addHeap 105 = .ok (.aload_n 0, 1) := by decide +kernel
theorem dX9_addHeap_106 : decode cX9_addHeap 106 = .ok (.getfield 22, 3) := by decide +kernel
theorem dX9_addHeap_109 : decode cX9_addHeap 109 = .ok (.iconst 3, 1) := by decide +kernel
theorem dX9_addHeap_110 : decode cX9_addHeap 110 = .ok (.iload 4, 2) := by decide +kernel
theorem dX9_addHeap_112 : decode cX9_addHeap 112 = .ok (.imul, 1) := by decide +kernel
theorem dX9_addHeap_113 : decode cX9_addHeap 113 = .ok (.iconst 2, 1) := by decide +kernel
theorem dX9_addHeap_114 : decode cX9_addHeap 114 = .ok (.iadd, 1) := by decide +kernel
theorem dX9_addHeap_115 : decode cX9_addHeap 115 = .ok (.iload 4, 2) := by decide +kernel
theorem dX9_addHeap_117 : decode cX9_addHeap 117 = .ok (.aload_n 0, 1) := by decide +kernel
theorem dX9_addHeap_118 : decode cX9_addHeap 118 = .ok (.getfield 50, 3) := by decide +kernel
theorem dX9_addHeap_121 : decode cX9_addHeap 121 = .ok (.if_icmp .ge 19, 3) := by decide +kernel
theorem dX9_addHeap_124 : decode cX9_addHeap 124 = .ok (.aload_n 0, 1) := by decide +kernel
theorem dX9_addHeap_125 : decode cX9_addHeap 125 = .ok (.getfield 22, 3) := by decide +kernel
theorem dX9_addHeap_128 : decode cX9_addHeap 128 = .ok (.iconst 3, 1) := by decide +kernel
theorem dX9_addHeap_129 : decode cX9_addHeap 129 = .ok (.iload 4, 2) := by decide +kernel
theorem dX9_addHeap_131 : decode cX9_addHeap 131 = .ok (.imul, 1) := by decide +kernel
theorem dX9_addHeap_132 : decode cX9_addHeap 132 = .ok (.iconst 2, 1) := by decide +kernel
theorem dX9_addHeap_133 : decode cX9_addHeap 133 = .ok (.iadd, 1) := by decide +kernel
theorem dX9_addHeap_134 : decode cX9_addHeap 134 = .ok (.iaload, 1) := by decide +kernel
theorem dX9_addHeap_135 : decode cX9_addHeap 135 = .ok (.iload_n 3, 1) := by decide +kernel
theorem dX9_addHeap_136 : decode cX9_addHeap 136 = .ok (.iadd, 1) := by decide +kernel
theorem dX9_addHeap_137 : decode cX9_addHeap 137 = .ok (.goto 4, 3) := by decide +kernel
theorem dX9_addHeap_140 : decode cX9_addHeap 140 = .ok (.iload_n 3, 1) := by decide +kernel
theorem dX9_addHeap_141 : decode cX9_addHeap 141 = .ok (.iastore, 1) := by decide +kernel
theorem dX9_addHeap_142 : decode cX9_addHeap 142 = .ok (.aload_n 0, 1) := by decide +kernel
theorem dX9_addHeap_143 : decode cX9_addHeap 143 = .ok (.iload 4, 2) := by decide +kernel
theorem dX9_addHeap_145 : decode cX9_addHeap 145 = .ok (.aload_n 0, 1) := by decide +kernel
theorem dX9_addHeap_146 : decode cX9_addHeap 146 = .ok (.getfield 50, 3) := by decide +kernel
theorem dX9_addHeap_149 : decode cX9_addHeap 149 = .ok (.if_icmp .ge 10, 3) := by decide +kernel
theorem dX9_addHeap_152 : decode cX9_addHeap 152 = .ok (.aload_n 0, 1) := by decide +kernel
theorem dX9_addHeap_153 : decode cX9_addHeap 153 = .ok (.getfield 50, 3) := by decide +kernel
theorem dX9_addHeap_156 : decode cX9_addHeap 156 = .ok (.goto 9, 3) := by decide +kernel
theorem dX9_addHeap_159 : decode cX9_addHeap 159 = .ok (.aload_n 0, 1) := by decide +kernel
theorem dX9_addHeap_160 : decode cX9_addHeap 160 = .ok (.getfield 50, 3) := by decide +kernel
theorem dX9_addHeap_163 : decode cX9_addHeap 163 = .ok (.iconst 1, 1) := by decide +kernel
theorem dX9_addHeap_164 : decode cX9_addHeap 164 = .ok (.iadd, 1) := by decide +kernel
theorem dX9_addHeap_165 : decode cX9_addHeap 165 = .ok (.putfield 50, 3) := by decide +kernel
theorem dX9_addHeap_168 : decode cX9_addHeap 168 = .ok (.iconst 1, 1) := by decide +kernel
theorem dX9_addHeap_169 : decode cX9_addHeap 169 = .ok (.ireturn, 1) := by decide +kernel
theorem dX9_takeRead_0 : decode cX9_takeRead 0 = .ok (.aload_n 0, 1) := by decide +kernel
theorem dX9_takeRead_1 : decode cX9_takeRead 1 = .ok (.aload_n 0, 1) := by decide +kernel
theorem dX9_takeRead_2 : decode cX9_takeRead 2 = .ok (.getfield 50, 3) := by decide +kernel
theorem dX9_takeRead_5 : decode cX9_takeRead 5 = .ok (.putfield 54, 3) := by decide +kernel
theorem dX9_takeRead_8 : decode cX9_takeRead 8 = .ok (.iconst 0, 1) := by decide +kernel
theorem dX9_takeRead_9 : decode cX9_takeRead 9 = .ok (.istore_n 1, 1) := by decide +kernel
theorem dX9_takeRead_10 : decode cX9_takeRead 10 = .ok (.iload_n 1, 1) := by decide +kernel
theorem dX9_takeRead_11 : decode cX9_takeRead 11 = .ok (.aload_n 0, 1) := by decide +kernel
theorem dX9_takeRead_12 : decode cX9_takeRead 12 = .ok (.getfield 50, 3) := by decide +kernel
theorem dX9_takeRead_15 : decode cX9_takeRead 15 = .ok (.if_icmp .ge 125, 3) := by decide +kernel
theorem dX9_takeRead_18 : decode cX9_takeRead 18 = .ok (.bipush 100, 2) := by decide +kernel
theorem dX9_takeRead_20 : decode cX9_takeRead 20 = .ok (.aload_n 0, 1) := by decide +kernel
theorem dX9_takeRead_21 : decode cX9_takeRead 21 = .ok (.getfield 22, 3) := by decide +kernel
theorem dX9_takeRead_24 : decode cX9_takeRead 24 = .ok (.iconst 3, 1) := by decide +kernel
theorem dX9_takeRead_25 : decode cX9_takeRead 25 = .ok (.iload_n 1, 1) := by decide +kernel
theorem dX9_takeRead_26 : decode cX9_takeRead 26 = .ok (.imul, 1) := by decide +kernel
theorem dX9_takeRead_27 : decode cX9_takeRead 27 = .ok (.iaload, 1) := by decide +kernel
theorem dX9_takeRead_28 : decode cX9_takeRead 28 = .ok (.imul, 1) := by decide +kernel
theorem dX9_takeRead_29 : decode cX9_takeRead 29 = .ok (.aload_n 0, 1) := by decide +kernel
theorem dX9_takeRead_30 : decode cX9_takeRead 30 = .ok (.getfield 22, 3) := by decide +kernel
theorem dX9_takeRead_33 : decode cX9_takeRead 33 = .ok (.iconst 3, 1) := by decide +kernel
theorem dX9_takeRead_34 : decode cX9_takeRead 34 = .ok (.iload_n 1, 1) := by decide +kernel
theorem dX9_takeRead_35 : decode cX9_takeRead 35 = .ok (.imul, 1) := by decide +kernel
theorem dX9_takeRead_36 : decode cX9_takeRead 36 = .ok (.iconst 1, 1) := by decide +kernel
theorem dX9_takeRead_37 : decode cX9_takeRead 37 = .ok (.iadd, 1) := by decide +kernel
theorem dX9_takeRead_38 : decode cX9_takeRead 38 = .ok (.iaload, 1) := by decide +kernel
theorem dX9_takeRead_39 : decode cX9_takeRead 39 = .ok (.iadd, 1) := by decide +kernel
theorem dX9_takeRead_40 : decode cX9_takeRead 40 = .ok (.istore_n 2, 1) := by decide +kernel
theorem dX9_takeRead_41 : decode cX9_takeRead 41 = .ok (.iconst 0, 1) := by decide +kernel
theorem dX9_takeRead_42 : decode cX9_takeRead 42 = .ok (.istore_n 3, 1) := by decide +kernel
theorem dX9_takeRead_43 : decode cX9_takeRead 43 = .ok (.iconst 0, 1) := by decide +kernel
theorem dX9_takeRead_44 : decode cX9_takeRead 44 = .ok (.istore 4, 2) := by decide +kernel
theorem dX9_takeRead_46 : decode cX9_takeRead 46 = .ok (.iload 4, 2) := by decide +kernel
theorem dX9_takeRead_48 : decode cX9_takeRead 48 = .ok (.aload_n 0, 1) := by decide +kernel
theorem dX9_takeRead_49 : decode cX9_takeRead 49 = .ok (.getfield 50, 3) := by decide +kernel
theorem dX9_takeRead_52 : decode cX9_takeRead 52 = .ok (.if_icmp .ge 45, 3) := by decide +kernel
theorem dX9_takeRead_55 : decode cX9_takeRead 55 = .ok (.iload_n 3, 1) := by decide +kernel
theorem dX9_takeRead_56 : decode cX9_takeRead 56 = .ok (.bipush 100, 2) := by decide +kernel
theorem dX9_takeRead_58 : decode cX9_takeRead 58 = .ok (.aload_n 0, 1) := by decide +kernel
theorem dX9_takeRead_59 : decode cX9_takeRead 59 = .ok (.getfield 22, 3) := by decide +kernel
theorem dX9_takeRead_62 : decode cX9_takeRead 62 = .ok (.iconst 3, 1) := by decide +kernel
theorem dX9_takeRead_63 : decode cX9_takeRead 63 = .ok (.iload 4, 2) := by decide +kernel
theorem dX9_takeRead_65 : decode cX9_takeRead 65 = .ok (.imul, 1) := by decide +kernel
theorem dX9_takeRead_66 : decode cX9_takeRead 66 = .ok (.iaload, 1) := by decide +kernel
theorem dX9_takeRead_67 : decode cX9_takeRead 67 = .ok (.imul, 1) := by decide +kernel
theorem dX9_takeRead_68 : decode cX9_takeRead 68 = .ok (.aload_n 0, 1) := by decide +kernel
theorem dX9_takeRead_69 : decode cX9_takeRead 69 = .ok (.getfield 22, 3) := by decide +kernel
theorem dX9_takeRead_72 : decode cX9_takeRead 72 = .ok (.iconst 3, 1) := by decide +kernel
theorem dX9_takeRead_73 : decode cX9_takeRead 73 = .ok (.iload 4, 2) := by decide +kernel
theorem dX9_takeRead_75 : decode cX9_takeRead 75 = .ok (.imul, 1) := by decide +kernel
theorem dX9_takeRead_76 : decode cX9_takeRead 76 = .ok (.iconst 1, 1) := by decide +kernel
theorem dX9_takeRead_77 : decode cX9_takeRead 77 = .ok (.iadd, 1) := by decide +kernel
theorem dX9_takeRead_78 : decode cX9_takeRead 78 = .ok (.iaload, 1) := by decide +kernel
theorem dX9_takeRead_79 : decode cX9_takeRead 79 = .ok (.iadd, 1) := by decide +kernel
theorem dX9_takeRead_80 : decode cX9_takeRead 80 = .ok (.iload_n 2, 1) := by decide +kernel
theorem dX9_takeRead_81 : decode cX9_takeRead 81 = .ok (.if_icmp .le 7, 3) := by decide +kernel
theorem dX9_takeRead_84 : decode cX9_takeRead 84 = .ok (.iconst 1, 1) := by decide +kernel
theorem dX9_takeRead_85 : decode cX9_takeRead 85 = .ok (.goto 4, 3) := by decide +kernel
theorem dX9_takeRead_88 : decode cX9_takeRead 88 = .ok (.iconst 0, 1) := by decide +kernel
theorem dX9_takeRead_89 : decode cX9_takeRead 89 = .ok (.iadd, 1) := by decide +kernel
theorem dX9_takeRead_90 : decode cX9_takeRead 90 = .ok (.istore_n 3, 1) := by decide +kernel
theorem dX9_takeRead_91 : decode cX9_takeRead 91 = .ok (.iinc 4 1, 3) := by decide +kernel
theorem dX9_takeRead_94 : decode cX9_takeRead 94 = .ok (.goto (-48), 3) := by decide +kernel
theorem dX9_takeRead_97 : decode cX9_takeRead 97 = .ok (.iconst 0, 1) := by decide +kernel
theorem dX9_takeRead_98 : decode cX9_takeRead 98 = .ok (.istore 4, 2) := by decide +kernel
theorem dX9_takeRead_100 : decode cX9_takeRead 100 = .ok (.iload 4, 2) := by decide +kernel
theorem dX9_takeRead_102 : decode cX9_takeRead 102 = .ok (.iconst 3, 1) := by decide +kernel
theorem dX9_takeRead_103 : decode cX9_takeRead 103 = .ok (.if_icmp .ge 31, 3) := by decide +kernel
theorem dX9_takeRead_106 : decode cX9_takeRead 106 = .ok (.aload_n 0, 1) := by decide +kernel
theorem dX9_takeRead_107 : decode cX9_takeRead 107 = .ok (.getfield 19, 3) := by decide +kernel
theorem dX9_takeRead_110 : decode cX9_takeRead 110 = .ok (.iconst 3, 1) := by decide +kernel
theorem dX9_takeRead_111 : decode cX9_takeRead 111 = .ok (.iload_n 3, 1) := by decide +kernel
theorem dX9_takeRead_112 : decode cX9_takeRead 112 = .ok (.imul, 1) := by decide +kernel
theorem dX9_takeRead_113 : decode cX9_takeRead 113 = .ok (.iload 4, 2) := by decide +kernel
theorem dX9_takeRead_115 : decode cX9_takeRead 115 = .ok (.iadd, 1) := by decide +kernel
theorem dX9_takeRead_116 : decode cX9_takeRead 116 = .ok (.aload_n 0, 1) := by decide +kernel
theorem dX9_takeRead_117 : decode cX9_takeRead 117 = .ok (.getfield 22, 3) := by decide +kernel
theorem dX9_takeRead_120 : decode cX9_takeRead 120 = .ok (.iconst 3, 1) := by decide +kernel
theorem dX9_takeRead_121 : decode cX9_takeRead 121 = .ok (.iload_n 1, 1) := by decide +kernel
theorem dX9_takeRead_122 : decode cX9_takeRead 122 = .ok (.imul, 1) := by decide +kernel
theorem dX9_takeRead_123 : decode cX9_takeRead 123 = .ok (.iload 4, 2) := by decide +kernel
theorem dX9_takeRead_125 : decode cX9_takeRead 125 = .ok (.iadd, 1) := by decide +kernel
theorem dX9_takeRead_126 : decode cX9_takeRead 126 = .ok (.iaload, 1) := by decide +kernel
theorem dX9_takeRead_127 : decode cX9_takeRead 127 = .ok (.iastore, 1) := by decide +kernel
theorem dX9_takeRead_128 : decode cX9_takeRead 128 = .ok (.iinc 4 1, 3) := by decide +kernel
theorem dX9_takeRead_131 : decode cX9_takeRead 131 = .ok (.goto (-31), 3) := by decide +kernel
theorem dX9_takeRead_134 : decode cX9_takeRead 134 = .ok (.iinc 1 1, 3) := by decide +kernel
theorem dX9_takeRead_137 : decode cX9_takeRead 137 = .ok (.goto (-127), 3) := by decide +kernel
theorem dX9_takeRead_140 : decode cX9_takeRead 140 = .ok (.iconst 0, 1) := by decide +kernel
theorem dX9_takeRead_141 : decode cX9_takeRead 141 = .ok (.istore_n 1, 1) := by decide +kernel
theorem dX9_takeRead_142 : decode cX9_takeRead 142 = .ok (.iload_n 1, 1) := by decide +kernel
theorem dX9_takeRead_143 : decode cX9_takeRead 143 = .ok (.iconst 5, 1) := by decide +kernel
theorem dX9_takeRead_144 : decode cX9_takeRead 144 = .ok (.if_icmp .ge 21, 3) := by decide +kernel
theorem dX9_takeRead_147 : decode cX9_takeRead 147 = .ok (.aload_n 0, 1) := by decide +kernel
theorem dX9_takeRead_148 : decode cX9_takeRead 148 = .ok (.getfield 13, 3) := by decide +kernel
theorem dX9_takeRead_151 : decode cX9_takeRead 151 = .ok (.iload_n 1, 1) := by decide +kernel
theorem dX9_takeRead_152 : decode cX9_takeRead 152 = .ok (.aload_n 0, 1) := by decide +kernel
theorem dX9_takeRead_153 : decode cX9_takeRead 153 = .ok (.getfield 16, 3) := by decide +kernel
theorem dX9_takeRead_156 : decode cX9_takeRead 156 = .ok (.iload_n 1, 1) := by decide +kernel
theorem dX9_takeRead_157 : decode cX9_takeRead 157 = .ok (.iaload, 1) := by decide +kernel
theorem dX9_takeRead_158 : decode cX9_takeRead 158 = .ok (.iastore, 1) := by decide +kernel
theorem dX9_takeRead_159 : decode cX9_takeRead 159 = .ok (.iinc 1 1, 3) := by decide +kernel
theorem dX9_takeRead_162 : decode cX9_takeRead 162 = .ok (.goto (-20), 3) := by decide +kernel
theorem dX9_takeRead_165 : decode cX9_takeRead 165 = .ok (.iconst 0, 1) := by decide +kernel
theorem dX9_takeRead_166 : decode cX9_takeRead 166 = .ok (.istore_n 1, 1) := by decide +kernel
theorem dX9_takeRead_167 : decode cX9_takeRead 167 = .ok (.iload_n 1, 1) := by decide +kernel
theorem dX9_takeRead_168 : decode cX9_takeRead 168 = .ok (.bipush 8, 2) := by decide +kernel
theorem dX9_takeRead_170 : decode cX9_takeRead 170 = .ok (.if_icmp .ge 37, 3) := by decide +kernel
theorem dX9_takeRead_173 : decode cX9_takeRead 173 = .ok (.aload_n 0, 1) := by decide +kernel
theorem dX9_takeRead_174 : decode cX9_takeRead 174 = .ok (.getfield 25, 3) := by decide +kernel
theorem dX9_takeRead_177 : decode cX9_takeRead 177 = .ok (.iload_n 1, 1) := by decide +kernel
theorem dX9_takeRead_178 : decode cX9_takeRead 178 = .ok (.iload_n 1, 1) := by decide +kernel
theorem dX9_takeRead_179 : decode cX9_takeRead 179 = .ok (.aload_n 0, 1) := by decide +kernel
theorem dX9_takeRead_180 : decode cX9_takeRead 180 = .ok (.getfield 54, 3) := by decide +kernel
theorem dX9_takeRead_183 : decode cX9_takeRead 183 = .ok (.if_icmp .ge 16, 3) := by decide +kernel
theorem dX9_takeRead_186 : decode cX9_takeRead 186 = .ok (.aload_n 0, 1) := by decide +kernel
theorem dX9_takeRead_187 : decode cX9_takeRead 187 = .ok (.getfield 19, 3) := by decide +kernel
theorem dX9_takeRead_190 : decode cX9_takeRead 190 = .ok (.iconst 3, 1) := by decide +kernel
theorem dX9_takeRead_191 : decode cX9_takeRead 191 = .ok (.iload_n 1, 1) := by decide +kernel
theorem dX9_takeRead_192 : decode cX9_takeRead 192 = .ok (.imul, 1) := by decide +kernel
theorem dX9_takeRead_193 : decode cX9_takeRead 193 = .ok (.iconst 2, 1) := by decide +kernel
theorem dX9_takeRead_194 : decode cX9_takeRead 194 = .ok (.iadd, 1) := by decide +kernel
theorem dX9_takeRead_195 : decode cX9_takeRead 195 = .ok (.iaload, 1) := by decide +kernel
theorem dX9_takeRead_196 : decode cX9_takeRead 196 = .ok (.goto 4, 3) := by decide +kernel
theorem dX9_takeRead_199 : decode cX9_takeRead 199 = .ok (.iconst 0, 1) := by decide +kernel
theorem dX9_takeRead_200 : decode cX9_takeRead 200 = .ok (.iastore, 1) := by decide +kernel
theorem dX9_takeRead_201 : decode cX9_takeRead 201 = .ok (.iinc 1 1, 3) := by decide +kernel
theorem dX9_takeRead_204 : decode cX9_takeRead 204 = .ok (.goto (-37), 3) := by decide +kernel
theorem dX9_takeRead_207 : decode cX9_takeRead 207 = .ok (.aload_n 0, 1) := by decide +kernel
theorem dX9_takeRead_208 : decode cX9_takeRead 208 = .ok (.getfield 25, 3) := by decide +kernel
theorem dX9_takeRead_211 : decode cX9_takeRead 211 = .ok (.bipush 8, 2) := by decide +kernel
theorem dX9_takeRead_213 : decode cX9_takeRead 213 = .ok (.iconst 0, 1) := by decide +kernel
theorem dX9_takeRead_214 : decode cX9_takeRead 214 = .ok (.iastore, 1) := by decide +kernel
theorem dX9_takeRead_215 : decode cX9_takeRead 215 = .ok (.aload_n 0, 1) := by decide +kernel
theorem dX9_takeRead_216 : decode cX9_takeRead 216 = .ok (.iconst 0, 1) := by decide +kernel
theorem dX9_takeRead_217 : decode cX9_takeRead 217 = .ok (.putfield 57, 3) := by decide +kernel
theorem dX9_takeRead_220 : decode cX9_takeRead 220 = .ok (.return_, 1) := by decide +kernel
set_option maxRecDepth 20000 in
theorem ggX9_isDigit_X9_in : GoodIn wsX9_isDigit wsX9_in := goodIn_r _ [7] (by decide +kernel) (by decide +kernel)
set_option maxRecDepth 20000 in
theorem gX9_isDigit_X9_in : GoodIn wsX9_isDigit (va_wsS RX9 66 yX9_in wsX9_in) := goodIn_app (goodIn_of _ (by decide +kernel)) ggX9_isDigit_X9_in
theorem dX9_isDigit_0 : decode cX9_isDigit 0 = .ok (.aload_n 0, 1) := by decide +kernel
theorem dX9_isDigit_1 : decode cX9_isDigit 1 = .ok (.getfield 60, 3) := by decide +kernel
theorem dX9_isDigit_4 : decode cX9_isDigit 4 = .ok (.aload_n 0, 1) := by decide +kernel
theorem dX9_isDigit_5 : decode cX9_isDigit 5 = .ok (.getfield 63, 3) := by decide +kernel
theorem dX9_isDigit_8 : decode cX9_isDigit 8 = .ok (.if_icmp .ge 26, 3) := by decide +kernel
theorem dX9_isDigit_11 : decode cX9_isDigit 11 = .ok (.aload_n 0, 1) := by decide +kernel
theorem dX9_isDigit_12 : decode cX9_isDigit 12 = .ok (.getfield 7, 3) := by decide +kernel
theorem dX9_isDigit_15 : decode cX9_isDigit 15 = .ok (.aload_n 0, 1) := by decide +kernel
theorem dX9_isDigit_16 : decode cX9_isDigit 16 = .ok (.getfield 60, 3) := by decide +kernel
theorem dX9_isDigit_19 : decode cX9_isDigit 19 = .ok (.iaload, 1) := by decide +kernel
theorem dX9_isDigit_20 : decode cX9_isDigit 20 = .ok (.bipush 48, 2) := by decide +kernel
theorem dX9_isDigit_22 : decode cX9_isDigit 22 = .ok (.bipush 57, 2) := by decide +kernel
theorem dX9_isDigit_24 : decode cX9_isDigit 24 = .ok (.invokestatic 66, 3) := by decide +kernel
theorem dX9_isDigit_27 : decode cX9_isDigit 27 = .ok (.ifCond .eq 7, 3) := by decide +kernel
theorem dX9_isDigit_30 : decode cX9_isDigit 30 = .ok (.iconst 1, 1) := by decide +kernel
theorem dX9_isDigit_31 : decode cX9_isDigit 31 = .ok (.goto 4, 3) := by decide +kernel
theorem dX9_isDigit_34 : decode cX9_isDigit 34 = .ok (.iconst 0, 1) := by decide +kernel
theorem dX9_isDigit_35 : decode cX9_isDigit 35 = .ok (.ireturn, 1) := by decide +kernel
set_option maxRecDepth 20000 in
theorem ggX9_readNumbers_X9_isDigit : GoodIn wsX9_readNumbers wsX9_isDigit := goodIn_r _ [9, 1, 3, 2, 10, 11, 8, 12, 13, 14, 15, 16, 17, 18, 19, 20, 21, 22, 23, 24, 25, 26, 27, 28, 29, 30] (by decide +kernel) (by decide +kernel)
set_option maxRecDepth 20000 in
theorem gX9_readNumbers_X9_isDigit : GoodIn wsX9_readNumbers (wsV RX9 69 RX9 yX9_isDigit wsX9_isDigit) := goodIn_app (goodIn_of _ (by decide +kernel)) ggX9_readNumbers_X9_isDigit
theorem dX9_readNumbers_0 : decode cX9_readNumbers 0 = .ok (.iconst 0, 1) := by decide +kernel
theorem dX9_readNumbers_1 : decode cX9_readNumbers 1 = .ok (.istore_n 2, 1) := by decide +kernel
theorem dX9_readNumbers_2 : decode cX9_readNumbers 2 = .ok (.iload_n 2, 1) := by decide +kernel
theorem dX9_readNumbers_3 : decode cX9_readNumbers 3 = .ok (.iload_n 1, 1) := by decide +kernel
theorem dX9_readNumbers_4 : decode cX9_readNumbers 4 = .ok (.if_icmp .ge 132, 3) := by decide +kernel
theorem dX9_readNumbers_7 : decode cX9_readNumbers 7 = .ok (.aload_n 0, 1) := by decide +kernel
theorem dX9_readNumbers_8 : decode cX9_readNumbers 8 = .ok (.getfield 60, 3) := by decide +kernel
theorem dX9_readNumbers_11 : decode cX9_readNumbers 11 = .ok (.istore_n 3, 1) := by decide +kernel
theorem dX9_readNumbers_12 : decode cX9_readNumbers 12 = .ok (.iconst 0, 1) := by decide +kernel
theorem dX9_readNumbers_13 : decode cX9_readNumbers 13 = .ok (.istore 4, 2) := by decide +kernel
theorem dX9_readNumbers_15 : decode cX9_readNumbers 15 = .ok (.aload_n 0, 1) := by decide +kernel
theorem dX9_readNumbers_16 : decode cX9_readNumbers 16 = .ok (.invokevirtual 69, 3) := by decide +kernel
theorem dX9_readNumbers_19 : decode cX9_readNumbers 19 = .ok (.ifCond .eq 46, 3) := by decide +kernel
theorem dX9_readNumbers_22 : decode cX9_readNumbers 22 = .ok (.aload_n 0, 1) := by decide +kernel
theorem dX9_readNumbers_23 : decode cX9_readNumbers 23 = .ok (.getfield 60, 3) := by decide +kernel
theorem dX9_readNumbers_26 : decode cX9_readNumbers 26 = .ok (.iload_n 3, 1) := by decide +kernel
theorem dX9_readNumbers_27 : decode cX9_readNumbers 27 = .ok (.iconst 3, 1) := by decide +kernel
theorem dX9_readNumbers_28 : decode cX9_readNumbers 28 = .ok (.iadd, 1) := by decide +kernel
theorem dX9_readNumbers_29 : decode cX9_readNumbers 29 = .ok (.if_icmp .ge 36, 3) := by decide +kernel
theorem dX9_readNumbers_32 : decode cX9_readNumbers 32 = .ok (.bipush 10, 2) := by decide +kernel
theorem dX9_readNumbers_34 : decode cX9_readNumbers 34 = .ok (.iload 4, 2) := by decide +kernel
theorem dX9_readNumbers_36 : decode cX9_readNumbers 36 = .ok (.imul, 1) := by decide +kernel
theorem dX9_readNumbers_37 : decode cX9_readNumbers 37 = .ok (.aload_n 0, 1) := by decide +kernel
theorem dX9_readNumbers_38 : decode cX9_readNumbers 38 = .ok (.getfield 7, 3) := by decide +kernel
theorem dX9_readNumbers_41 : decode cX9_readNumbers 41 = .ok (.aload_n 0, 1) := by decide +kernel
theorem dX9_readNumbers_42 : decode cX9_readNumbers 42 = .ok (.getfield 60, 3) := by decide +kernel
theorem dX9_readNumbers_45 : decode cX9_readNumbers 45 = .ok (.iaload, 1) := by decide +kernel
theorem dX9_readNumbers_46 : decode cX9_readNumbers 46 = .ok (.iadd, 1) := by decide +kernel
theorem dX9_readNumbers_47 : decode cX9_readNumbers 47 = .ok (.bipush 48, 2) := by decide +kernel
theorem dX9_readNumbers_49 : decode cX9_readNumbers 49 = .ok (.isub, 1) := by decide +kernel
theorem dX9_readNumbers_50 : decode cX9_readNumbers 50 = .ok (.istore 4, 2) := by decide +kernel
theorem dX9_readNumbers_52 : decode cX9_readNumbers 52 = .ok (.aload_n 0, 1) := by decide +kernel
theorem dX9_readNumbers_53 : decode cX9_readNumbers 53 = .ok (.dup, 1) := by decide +kernel
theorem dX9_readNumbers_54 : decode cX9_readNumbers 54 = .ok (.getfield 60, 3) := by decide +kernel
theorem dX9_readNumbers_57 : decode cX9_readNumbers 57 = .ok (.iconst 1, 1) := by decide +kernel
theorem dX9_readNumbers_58 : decode cX9_readNumbers 58 = .ok (.iadd, 1) := by decide +kernel
theorem dX9_readNumbers_59 : decode cX9_readNumbers 59 = .ok (.putfield 60, 3) := by decide +kernel
theorem dX9_readNumbers_62 : decode cX9_readNumbers 62 = .ok (.goto (-47), 3) := by decide +kernel
theorem dX9_readNumbers_65 : decode cX9_readNumbers 65 = .ok (.aload_n 0, 1) := by decide +kernel
theorem dX9_readNumbers_66 : decode cX9_readNumbers 66 = .ok (.getfield 60, 3) := by decide +kernel
theorem dX9_readNumbers_69 : decode cX9_readNumbers 69 = .ok (.iload_n 3, 1) := by decide +kernel
theorem dX9_readNumbers_70 : decode cX9_readNumbers 70 = .ok (.if_icmp .eq 40, 3) := by decide +kernel
theorem dX9_readNumbers_73 : decode cX9_readNumbers 73 = .ok (.aload_n 0, 1) := by decide +kernel
theorem dX9_readNumbers_74 : decode cX9_readNumbers 74 = .ok (.getfield 60, 3) := by decide +kernel
theorem dX9_readNumbers_77 : decode cX9_readNumbers 77 = .ok (.aload_n 0, 1) := by decide +kernel
theorem dX9_readNumbers_78 : decode cX9_readNumbers 78 = .ok (.getfield 63, 3) := by decide +kernel
theorem dX9_readNumbers_81 : decode cX9_readNumbers 81 = .ok (.if_icmp .eq 29, 3) := by decide +kernel
theorem dX9_readNumbers_84 : decode cX9_readNumbers 84 = .ok (.aload_n 0, 1) := by decide +kernel
theorem dX9_readNumbers_85 : decode cX9_readNumbers 85 = .ok (.getfield 7, 3) := by decide +kernel
theorem dX9_readNumbers_88 : decode cX9_readNumbers 88 = .ok (.aload_n 0, 1) := by decide +kernel
theorem dX9_readNumbers_89 : decode cX9_readNumbers 89 = .ok (.getfield 60, 3) := by decide +kernel
theorem dX9_readNumbers_92 : decode cX9_readNumbers 92 = .ok (.iaload, 1) := by decide +kernel
theorem dX9_readNumbers_93 : decode cX9_readNumbers 93 = .ok (.iload_n 2, 1) := by decide +kernel
theorem dX9_readNumbers_94 : decode cX9_readNumbers 94 = .ok (.iconst 1, 1) := by decide +kernel
theorem dX9_readNumbers_95 : decode cX9_readNumbers 95 = .ok (.iadd, 1) := by decide +kernel
theorem dX9_readNumbers_96 : decode cX9_readNumbers 96 = .ok (.iload_n 1, 1) := by decide +kernel
theorem dX9_readNumbers_97 : decode cX9_readNumbers 97 = .ok (.if_icmp .ne 8, 3) := by decide +kernel
theorem dX9_readNumbers_100 : decode cX9_readNumbers 100 = .ok (.bipush 59, 2) := by decide +kernel
theorem dX9_readNumbers_102 : decode cX9_readNumbers 102 = .ok (.goto 5, 3) := by decide +kernel
theorem dX9_readNumbers_105 : decode cX9_readNumbers 105 = .ok (.bipush 44, 2) := by decide +kernel
theorem dX9_readNumbers_107 : decode cX9_readNumbers 107 = .ok (.if_icmp .eq 5, 3) := by decide +kernel
theorem dX9_readNumbers_110 : decode cX9_readNumbers 110 = .ok (.iconst 0, 1) := by decide +kernel
theorem dX9_readNumbers_111 : decode cX9_readNumbers 111 = .ok (.ireturn, 1) := by decide +kernel
theorem dX9_readNumbers_112 : decode cX9_readNumbers 112 = .ok (.aload_n 0, 1) := by decide +kernel
theorem dX9_readNumbers_113 : decode cX9_readNumbers 113 = .ok (.getfield 34, 3) := by decide +kernel
theorem dX9_readNumbers_116 : decode cX9_readNumbers 116 = .ok (.iload_n 2, 1) := by decide +kernel
theorem dX9_readNumbers_117 : decode cX9_readNumbers 117 = .ok (.iload 4, 2) := by decide +kernel
theorem dX9_readNumbers_119 : decode cX9_readNumbers 119 = .ok (.iastore, 1) := by decide +kernel
theorem dX9_readNumbers_120 : decode cX9_readNumbers 120 = .ok (.aload_n 0, 1) := by decide +kernel
theorem dX9_readNumbers_121 : decode cX9_readNumbers 121 = .ok (.dup, 1) := by decide +kernel
theorem dX9_readNumbers_122 : decode cX9_readNumbers 122 = .ok (.getfield 60, 3) := by decide +kernel
theorem dX9_readNumbers_125 : decode cX9_readNumbers 125 = .ok (.iconst 1, 1) := by decide +kernel
theorem dX9_readNumbers_126 : decode cX9_readNumbers 126 = .ok (.iadd, 1) := by decide +kernel
theorem dX9_readNumbers_127 : decode cX9_readNumbers 127 = .ok (.putfield 60, 3) := by decide +kernel
theorem dX9_readNumbers_130 : decode cX9_readNumbers 130 = .ok (.iinc 2 1, 3) := by decide +kernel
theorem dX9_readNumbers_133 : decode cX9_readNumbers 133 = .ok (.goto (-131), 3) := by decide +kernel
theorem dX9_readNumbers_136 : decode cX9_readNumbers 136 = .ok (.iconst 1, 1) := by decide +kernel
theorem dX9_readNumbers_137 : decode cX9_readNumbers 137 = .ok (.ireturn, 1) := by decide +kernel
set_option maxRecDepth 20000 in
theorem ggX9_isNumber_X9_in : GoodIn wsX9_isNumber wsX9_in := goodIn_r _ [5] (by decide +kernel) (by decide +kernel)
set_option maxRecDepth 20000 in
theorem gX9_isNumber_X9_in : GoodIn wsX9_isNumber (va_wsS RX9 66 yX9_in wsX9_in) := goodIn_app (goodIn_of _ (by decide +kernel)) ggX9_isNumber_X9_in
theorem dX9_isNumber_0 : decode cX9_isNumber 0 = .ok (.aload_n 0, 1) := by decide +kernel
theorem dX9_isNumber_1 : decode cX9_isNumber 1 = .ok (.getfield 34, 3) := by decide +kernel
theorem dX9_isNumber_4 : decode cX9_isNumber 4 = .ok (.iload_n 1, 1) := by decide +kernel
theorem dX9_isNumber_5 : decode cX9_isNumber 5 = .ok (.iaload, 1) := by decide +kernel
theorem dX9_isNumber_6 : decode cX9_isNumber 6 = .ok (.iload_n 2, 1) := by decide +kernel
theorem dX9_isNumber_7 : decode cX9_isNumber 7 = .ok (.iload_n 3, 1) := by decide +kernel
theorem dX9_isNumber_8 : decode cX9_isNumber 8 = .ok (.invokestatic 66, 3) := by decide +kernel
theorem dX9_isNumber_11 : decode cX9_isNumber 11 = .ok (.ireturn, 1) := by decide +kernel
theorem dX9_setRead_0 : decode cX9_setRead 0 = .ok (.aload_n 0, 1) := by decide +kernel
theorem dX9_setRead_1 : decode cX9_setRead 1 = .ok (.getfield 16, 3) := by decide +kernel
theorem dX9_setRead_4 : decode cX9_setRead 4 = .ok (.iload_n 1, 1) := by decide +kernel
theorem dX9_setRead_5 : decode cX9_setRead 5 = .ok (.iload_n 3, 1) := by decide +kernel
theorem dX9_setRead_6 : decode cX9_setRead 6 = .ok (.ifCond .eq 7, 3) := by decide +kernel
theorem dX9_setRead_9 : decode cX9_setRead 9 = .ok (.iload_n 2, 1) := by decide +kernel
theorem dX9_setRead_10 : decode cX9_setRead 10 = .ok (.goto 9, 3) := by decide +kernel
theorem dX9_setRead_13 : decode cX9_setRead 13 = .ok (.aload_n 0, 1) := by decide +kernel
theorem dX9_setRead_14 : decode cX9_setRead 14 = .ok (.getfield 16, 3) := by decide +kernel
theorem dX9_setRead_17 : decode cX9_setRead 17 = .ok (.iload_n 1, 1) := by decide +kernel
theorem dX9_setRead_18 : decode cX9_setRead 18 = .ok (.iaload, 1) := by decide +kernel
theorem dX9_setRead_19 : decode cX9_setRead 19 = .ok (.iastore, 1) := by decide +kernel
theorem dX9_setRead_20 : decode cX9_setRead 20 = .ok (.return_, 1) := by decide +kernel
set_option maxRecDepth 20000 in
theorem ggX9_readItem_X9_readNumbers : GoodIn wsX9_readItem wsX9_readNumbers := goodIn_r _ [6, 7, 8, 9, 1, 10, 11, 12, 5, 13, 14, 15, 16, 32, 33, 34, 35, 36, 37, 38, 39, 40, 41, 42, 43, 44, 45, 46, 47, 48, 49] (by decide +kernel) (by decide +kernel)
set_option maxRecDepth 20000 in
theorem gX9_readItem_X9_readNumbers : GoodIn wsX9_readItem (wsV RX9 73 RX9 yX9_readNumbers wsX9_readNumbers) := goodIn_app (goodIn_of _ (by decide +kernel)) ggX9_readItem_X9_readNumbers
set_option maxRecDepth 20000 in
theorem ggX9_readItem_X9_isNumber : GoodIn wsX9_readItem wsX9_isNumber := goodIn_r _ [20, 1, 14, 15, 5, 16, 32, 33, 34, 35, 36, 37, 38, 39, 40, 41, 42, 43, 44, 45, 46, 47, 48, 49] (by decide +kernel) (by decide +kernel)
set_option maxRecDepth 20000 in
theorem gX9_readItem_X9_isNumber : GoodIn wsX9_readItem (wsV RX9 77 RX9 yX9_isNumber wsX9_isNumber) := goodIn_app (goodIn_of _ (by decide +kernel)) ggX9_readItem_X9_isNumber
set_option maxRecDepth 20000 in
theorem ggX9_readItem_X9_addHeap : GoodIn wsX9_readItem wsX9_addHeap := goodIn_r _ [24, 25, 26, 32, 33, 34, 35, 36, 37, 38, 39, 40, 41, 42, 43, 44, 45, 46, 47, 48, 49] (by decide +kernel) (by decide +kernel)
set_option maxRecDepth 20000 in
theorem gX9_readItem_X9_addHeap : GoodIn wsX9_readItem (wsV RX9 43 RX9 yX9_addHeap wsX9_addHeap) := goodIn_app (goodIn_of _ (by decide +kernel)) ggX9_readItem_X9_addHeap
set_option maxRecDepth 20000 in
theorem ggX9_readItem_X9_setRead : GoodIn wsX9_readItem wsX9_setRead := goodIn_r _ [30, 31, 32, 33, 34, 35, 36, 37, 38, 39, 40, 41, 42, 43, 44, 45, 46, 47, 48, 49] (by decide +kernel) (by decide +kernel)
set_option maxRecDepth 20000 in
theorem gX9_readItem_X9_setRead : GoodIn wsX9_readItem (wsV RX9 80 RX9 yX9_setRead wsX9_setRead) := goodIn_app (goodIn_of _ (by decide +kernel)) ggX9_readItem_X9_setRead
theorem dX9_readItem_0 : decode cX9_readItem 0 = .ok (.iconst 0, 1) := by decide +kernel
theorem dX9_readItem_1 : decode cX9_readItem 1 = .ok (.istore_n 2, 1) := by decide +kernel
theorem dX9_readItem_2 : decode cX9_readItem 2 = .ok (.iload_n 1, 1) := by decide +kernel
theorem dX9_readItem_3 : decode cX9_readItem 3 = .ok (.lookupswitch 282 #[(104, 41), (105, 243), (112, 181), (114, 115)], 41) := by decide +kernel
theorem dX9_readItem_44 : decode cX9_readItem 44 = .ok (.aload_n 0, 1) := by decide +kernel
theorem dX9_readItem_45 : decode cX9_readItem 45 = .ok (.iconst 3, 1) := by decide +kernel
theorem dX9_readItem_46 : decode cX9_readItem 46 = .ok (.invokevirtual 73, 3) := by decide +kernel
theorem dX9_readItem_49 : decode cX9_readItem 49 = .ok (.ifCond .eq 67, 3) := by decide +kernel
theorem dX9_readItem_52 : decode cX9_readItem 52 = .ok (.aload_n 0, 1) := by decide +kernel
theorem dX9_readItem_53 : decode cX9_readItem 53 = .ok (.iconst 0, 1) := by decide +kernel
theorem dX9_readItem_54 : decode cX9_readItem 54 = .ok (.bipush 20, 2) := by decide +kernel
theorem dX9_readItem_56 : decode cX9_readItem 56 = .ok (.bipush 60, 2) := by decide +kernel
theorem dX9_readItem_58 : decode cX9_readItem 58 = .ok (.invokevirtual 77, 3) := by decide +kernel
theorem dX9_readItem_61 : decode cX9_readItem 61 = .ok (.ifCond .eq 55, 3) := by decide +kernel
theorem dX9_readItem_64 : decode cX9_readItem 64 = .ok (.aload_n 0, 1) := by decide +kernel
theorem dX9_readItem_65 : decode cX9_readItem 65 = .ok (.iconst 1, 1) := by decide +kernel
theorem dX9_readItem_66 : decode cX9_readItem 66 = .ok (.bipush 10, 2) := by decide +kernel
theorem dX9_readItem_68 : decode cX9_readItem 68 = .ok (.bipush 60, 2) := by decide +kernel
theorem dX9_readItem_70 : decode cX9_readItem 70 = .ok (.invokevirtual 77, 3) := by decide +kernel
theorem dX9_readItem_73 : decode cX9_readItem 73 = .ok (.ifCond .eq 43, 3) := by decide +kernel
theorem dX9_readItem_76 : decode cX9_readItem 76 = .ok (.aload_n 0, 1) := by decide +kernel
theorem dX9_readItem_77 : decode cX9_readItem 77 = .ok (.iconst 2, 1) := by decide +kernel
theorem dX9_readItem_78 : decode cX9_readItem 78 = .ok (.iconst 1, 1) := by decide +kernel
theorem dX9_readItem_79 : decode cX9_readItem 79 = .ok (.bipush 99, 2) := by decide +kernel
theorem dX9_readItem_81 : decode cX9_readItem 81 = .ok (.invokevirtual 77, 3) := by decide +kernel
theorem dX9_readItem_84 : decode cX9_readItem 84 = .ok (.ifCond .eq 32, 3) := by decide +kernel
theorem dX9_readItem_87 : decode cX9_readItem 87 = .ok (.aload_n 0, 1) := by decide +kernel
theorem dX9_readItem_88 : decode cX9_readItem 88 = .ok (.aload_n 0, 1) := by decide +kernel
theorem dX9_readItem_89 : decode cX9_readItem 89 = .ok (.getfield 34, 3) := by decide +kernel
theorem dX9_readItem_92 : decode cX9_readItem 92 = .ok (.iconst 0, 1) := by decide +kernel
theorem dX9_readItem_93 : decode cX9_readItem 93 = .ok (.iaload, 1) := by decide +kernel
theorem dX9_readItem_94 : decode cX9_readItem 94 = .ok (.aload_n 0, 1) := by decide +kernel
theorem dX9_readItem_95 : decode cX9_readItem 95 = .ok (.getfield 34, 3) := by decide +kernel
theorem dX9_readItem_98 : decode cX9_readItem 98 = .ok (.iconst 1, 1) := by decide +kernel
theorem dX9_readItem_99 : decode cX9_readItem 99 = .ok (.iaload, 1) := by decide +kernel
theorem dX9_readItem_100 : decode cX9_readItem 100 = .ok (.aload_n 0, 1) := by decide +kernel
theorem dX9_readItem_101 : decode cX9_readItem 101 = .ok (.getfield 34, 3) := by decide +kernel
theorem dX9_readItem_104 : decode cX9_readItem 104 = .ok (.iconst 2, 1) := by decide +kernel
theorem dX9_readItem_105 : decode cX9_readItem 105 = .ok (.iaload, 1) := by decide +kernel
theorem dX9_readItem_106 : decode cX9_readItem 106 = .ok (.invokevirtual 43, 3) := by decide +kernel
theorem dX9_readItem_109 : decode cX9_readItem 109 = .ok (.ifCond .eq 7, 3) := by decide +kernel
theorem dX9_readItem_112 : decode cX9_readItem 112 = .ok (.iconst 1, 1) := by decide +kernel
theorem dX9_readItem_113 : decode cX9_readItem 113 = .ok (.goto 4, 3) := by decide +kernel
theorem dX9_readItem_116 : decode cX9_readItem 116 = .ok (.iconst 0, 1) := by decide +kernel
theorem dX9_readItem_117 : decode cX9_readItem 117 = .ok (.ireturn, 1) := by decide +kernel
theorem dX9_readItem_118 : decode cX9_readItem 118 = .ok (.aload_n 0, 1) := by decide +kernel
theorem dX9_readItem_119 : decode cX9_readItem 119 = .ok (.iconst 2, 1) := by decide +kernel
theorem dX9_readItem_120 : decode cX9_readItem 120 = .ok (.invokevirtual 73, 3) := by decide +kernel
theorem dX9_readItem_123 : decode cX9_readItem 123 = .ok (.ifCond .eq 33, 3) := by decide +kernel
theorem dX9_readItem_126 : decode cX9_readItem 126 = .ok (.aload_n 0, 1) := by decide +kernel
theorem dX9_readItem_127 : decode cX9_readItem 127 = .ok (.iconst 0, 1) := by decide +kernel
theorem dX9_readItem_128 : decode cX9_readItem 128 = .ok (.bipush 20, 2) := by decide +kernel
theorem dX9_readItem_130 : decode cX9_readItem 130 = .ok (.sipush 400, 3) := by decide +kernel
theorem dX9_readItem_133 : decode cX9_readItem 133 = .ok (.invokevirtual 77, 3) := by decide +kernel
theorem dX9_readItem_136 : decode cX9_readItem 136 = .ok (.ifCond .eq 20, 3) := by decide +kernel
theorem dX9_readItem_139 : decode cX9_readItem 139 = .ok (.aload_n 0, 1) := by decide +kernel
theorem dX9_readItem_140 : decode cX9_readItem 140 = .ok (.iconst 1, 1) := by decide +kernel
theorem dX9_readItem_141 : decode cX9_readItem 141 = .ok (.bipush 40, 2) := by decide +kernel
theorem dX9_readItem_143 : decode cX9_readItem 143 = .ok (.sipush 240, 3) := by decide +kernel
theorem dX9_readItem_146 : decode cX9_readItem 146 = .ok (.invokevirtual 77, 3) := by decide +kernel
theorem dX9_readItem_149 : decode cX9_readItem 149 = .ok (.ifCond .eq 7, 3) := by decide +kernel
theorem dX9_readItem_152 : decode cX9_readItem 152 = .ok (.iconst 1, 1) := by decide +kernel
theorem dX9_readItem_153 : decode cX9_readItem 153 = .ok (.goto 4, 3) := by decide +kernel
theorem dX9_readItem_156 : decode cX9_readItem 156 = .ok (.iconst 0, 1) := by decide +kernel
theorem dX9_readItem_157 : decode cX9_readItem 157 = .ok (.istore_n 2, 1) := by decide +kernel
theorem dX9_readItem_158 : decode cX9_readItem 158 = .ok (.aload_n 0, 1) := by decide +kernel
theorem dX9_readItem_159 : decode cX9_readItem 159 = .ok (.iconst 0, 1) := by decide +kernel
theorem dX9_readItem_160 : decode cX9_readItem 160 = .ok (.aload_n 0, 1) := by decide +kernel
theorem dX9_readItem_161 : decode cX9_readItem 161 = .ok (.getfield 34, 3) := by decide +kernel
theorem dX9_readItem_164 : decode cX9_readItem 164 = .ok (.iconst 0, 1) := by decide +kernel
theorem dX9_readItem_165 : decode cX9_readItem 165 = .ok (.iaload, 1) := by decide +kernel
theorem dX9_readItem_166 : decode cX9_readItem 166 = .ok (.iload_n 2, 1) := by decide +kernel
theorem dX9_readItem_167 : decode cX9_readItem 167 = .ok (.invokevirtual 80, 3) := by decide +kernel
theorem dX9_readItem_170 : decode cX9_readItem 170 = .ok (.aload_n 0, 1) := by decide +kernel
theorem dX9_readItem_171 : decode cX9_readItem 171 = .ok (.iconst 1, 1) := by decide +kernel
theorem dX9_readItem_172 : decode cX9_readItem 172 = .ok (.aload_n 0, 1) := by decide +kernel
theorem dX9_readItem_173 : decode cX9_readItem 173 = .ok (.getfield 34, 3) := by decide +kernel
theorem dX9_readItem_176 : decode cX9_readItem 176 = .ok (.iconst 1, 1) := by decide +kernel
theorem dX9_readItem_177 : decode cX9_readItem 177 = .ok (.iaload, 1) := by decide +kernel
theorem dX9_readItem_178 : decode cX9_readItem 178 = .ok (.iload_n 2, 1) := by decide +kernel
theorem dX9_readItem_179 : decode cX9_readItem 179 = .ok (.invokevirtual 80, 3) := by decide +kernel
theorem dX9_readItem_182 : decode cX9_readItem 182 = .ok (.iload_n 2, 1) := by decide +kernel
theorem dX9_readItem_183 : decode cX9_readItem 183 = .ok (.ireturn, 1) := by decide +kernel
theorem dX9_readItem_184 : decode cX9_readItem 184 = .ok (.aload_n 0, 1) := by decide +kernel
theorem dX9_readItem_185 : decode cX9_readItem 185 = .ok (.iconst 2, 1) := by decide +kernel
theorem dX9_readItem_186 : decode cX9_readItem 186 = .ok (.invokevirtual 73, 3) := by decide +kernel
theorem dX9_readItem_189 : decode cX9_readItem 189 = .ok (.ifCond .eq 29, 3) := by decide +kernel
theorem dX9_readItem_192 : decode cX9_readItem 192 = .ok (.aload_n 0, 1) := by decide +kernel
theorem dX9_readItem_193 : decode cX9_readItem 193 = .ok (.iconst 0, 1) := by decide +kernel
theorem dX9_readItem_194 : decode cX9_readItem 194 = .ok (.iconst 1, 1) := by decide +kernel
theorem dX9_readItem_195 : decode cX9_readItem 195 = .ok (.bipush 10, 2) := by decide +kernel
theorem dX9_readItem_197 : decode cX9_readItem 197 = .ok (.invokevirtual 77, 3) := by decide +kernel
theorem dX9_readItem_200 : decode cX9_readItem 200 = .ok (.ifCond .eq 18, 3) := by decide +kernel
theorem dX9_readItem_203 : decode cX9_readItem 203 = .ok (.aload_n 0, 1) := by decide +kernel
theorem dX9_readItem_204 : decode cX9_readItem 204 = .ok (.iconst 1, 1) := by decide +kernel
theorem dX9_readItem_205 : decode cX9_readItem 205 = .ok (.iconst 1, 1) := by decide +kernel
theorem dX9_readItem_206 : decode cX9_readItem 206 = .ok (.bipush 9, 2) := by decide +kernel
theorem dX9_readItem_208 : decode cX9_readItem 208 = .ok (.invokevirtual 77, 3) := by decide +kernel
theorem dX9_readItem_211 : decode cX9_readItem 211 = .ok (.ifCond .eq 7, 3) := by decide +kernel
theorem dX9_readItem_214 : decode cX9_readItem 214 = .ok (.iconst 1, 1) := by decide +kernel
theorem dX9_readItem_215 : decode cX9_readItem 215 = .ok (.goto 4, 3) := by decide +kernel
theorem dX9_readItem_218 : decode cX9_readItem 218 = .ok (.iconst 0, 1) := by decide +kernel
theorem dX9_readItem_219 : decode cX9_readItem 219 = .ok (.istore_n 2, 1) := by decide +kernel
theorem dX9_readItem_220 : decode cX9_readItem 220 = .ok (.aload_n 0, 1) := by decide +kernel
theorem dX9_readItem_221 : decode cX9_readItem 221 = .ok (.iconst 2, 1) := by decide +kernel
theorem dX9_readItem_222 : decode cX9_readItem 222 = .ok (.aload_n 0, 1) := by decide +kernel
theorem dX9_readItem_223 : decode cX9_readItem 223 = .ok (.getfield 34, 3) := by decide +kernel
theorem dX9_readItem_226 : decode cX9_readItem 226 = .ok (.iconst 0, 1) := by decide +kernel
theorem dX9_readItem_227 : decode cX9_readItem 227 = .ok (.iaload, 1) := by decide +kernel
theorem dX9_readItem_228 : decode cX9_readItem 228 = .ok (.iload_n 2, 1) := by decide +kernel
theorem dX9_readItem_229 : decode cX9_readItem 229 = .ok (.invokevirtual 80, 3) := by decide +kernel
theorem dX9_readItem_232 : decode cX9_readItem 232 = .ok (.aload_n 0, 1) := by decide +kernel
theorem dX9_readItem_233 : decode cX9_readItem 233 = .ok (.iconst 3, 1) := by decide +kernel
theorem dX9_readItem_234 : decode cX9_readItem 234 = .ok (.aload_n 0, 1) := by decide +kernel
theorem dX9_readItem_235 : decode cX9_readItem 235 = .ok (.getfield 34, 3) := by decide +kernel
theorem dX9_readItem_238 : decode cX9_readItem 238 = .ok (.iconst 1, 1) := by decide +kernel
theorem dX9_readItem_239 : decode cX9_readItem 239 = .ok (.iaload, 1) := by decide +kernel
theorem dX9_readItem_240 : decode cX9_readItem 240 = .ok (.iload_n 2, 1) := by decide +kernel
theorem dX9_readItem_241 : decode cX9_readItem 241 = .ok (.invokevirtual 80, 3) := by decide +kernel
theorem dX9_readItem_244 : decode cX9_readItem 244 = .ok (.iload_n 2, 1) := by decide +kernel
theorem dX9_readItem_245 : decode cX9_readItem 245 = .ok (.ireturn, 1) := by decide +kernel
theorem dX9_readItem_246 : decode cX9_readItem 246 = .ok (.aload_n 0, 1) := by decide +kernel
theorem dX9_readItem_247 : decode cX9_readItem 247 = .ok (.iconst 1, 1) := by decide +kernel
theorem dX9_readItem_248 : decode cX9_readItem 248 = .ok (.invokevirtual 73, 3) := by decide +kernel
theorem dX9_readItem_251 : decode cX9_readItem 251 = .ok (.ifCond .eq 18, 3) := by decide +kernel
theorem dX9_readItem_254 : decode cX9_readItem 254 = .ok (.aload_n 0, 1) := by decide +kernel
theorem dX9_readItem_255 : decode cX9_readItem 255 = .ok (.iconst 0, 1) := by decide +kernel
theorem dX9_readItem_256 : decode cX9_readItem 256 = .ok (.iconst 0, 1) := by decide +kernel
theorem dX9_readItem_257 : decode cX9_readItem 257 = .ok (.bipush 9, 2) := by decide +kernel
theorem dX9_readItem_259 : decode cX9_readItem 259 = .ok (.invokevirtual 77, 3) := by decide +kernel
theorem dX9_readItem_262 : decode cX9_readItem 262 = .ok (.ifCond .eq 7, 3) := by decide +kernel
theorem dX9_readItem_265 : decode cX9_readItem 265 = .ok (.iconst 1, 1) := by decide +kernel
theorem dX9_readItem_266 : decode cX9_readItem 266 = .ok (.goto 4, 3) := by decide +kernel
theorem dX9_readItem_269 : decode cX9_readItem 269 = .ok (.iconst 0, 1) := by decide +kernel
theorem dX9_readItem_270 : decode cX9_readItem 270 = .ok (.istore_n 2, 1) := by decide +kernel
theorem dX9_readItem_271 : decode cX9_readItem 271 = .ok (.aload_n 0, 1) := by decide +kernel
theorem dX9_readItem_272 : decode cX9_readItem 272 = .ok (.iconst 4, 1) := by decide +kernel
theorem dX9_readItem_273 : decode cX9_readItem 273 = .ok (.aload_n 0, 1) := by decide +kernel
theorem dX9_readItem_274 : decode cX9_readItem 274 = .ok (.getfield 34, 3) := by decide +kernel
theorem dX9_readItem_277 : decode cX9_readItem 277 = .ok (.iconst 0, 1) := by decide +kernel
theorem dX9_readItem_278 : decode cX9_readItem 278 = .ok (.iaload, 1) := by decide +kernel
theorem dX9_readItem_279 : decode cX9_readItem 279 = .ok (.iload_n 2, 1) := by decide +kernel
theorem dX9_readItem_280 : decode cX9_readItem 280 = .ok (.invokevirtual 80, 3) := by decide +kernel
theorem dX9_readItem_283 : decode cX9_readItem 283 = .ok (.iload_n 2, 1) := by decide +kernel
theorem dX9_readItem_284 : decode cX9_readItem 284 = .ok (.ireturn, 1) := by decide +kernel
theorem dX9_readItem_285 : decode cX9_readItem 285 = .ok (.iconst 0, 1) := by decide +kernel
theorem dX9_readItem_286 : decode cX9_readItem 286 = .ok (.ireturn, 1) := by decide +kernel
set_option maxRecDepth 20000 in
theorem ggX9_parse_X9_beginRead : GoodIn wsX9_parse wsX9_beginRead := goodIn_r _ [8, 9, 10, 40, 41, 42, 43, 44, 45, 46, 47, 48, 49, 50, 51, 52, 53, 54, 55, 56, 57] (by decide +kernel) (by decide +kernel)
set_option maxRecDepth 20000 in
theorem gX9_parse_X9_beginRead : GoodIn wsX9_parse (wsV RX9 40 RX9 yX9_beginRead wsX9_beginRead) := goodIn_app (goodIn_of _ (by decide +kernel)) ggX9_parse_X9_beginRead
set_option maxRecDepth 20000 in
theorem ggX9_parse_X9_readItem : GoodIn wsX9_parse wsX9_readItem := goodIn_r _ [14, 15, 16, 17, 18, 7, 19, 1, 3, 2, 20, 21, 22, 23, 24, 25, 26, 27, 28, 29, 30, 31, 32, 33, 34, 9, 35, 36, 37, 38, 39, 10, 40, 41, 42, 43, 44, 45, 46, 47, 48, 49, 50, 51, 52, 53, 54, 55, 56, 57] (by decide +kernel) (by decide +kernel)
set_option maxRecDepth 20000 in
theorem gX9_parse_X9_readItem : GoodIn wsX9_parse (wsV RX9 84 RX9 yX9_readItem wsX9_readItem) := goodIn_app (goodIn_of _ (by decide +kernel)) ggX9_parse_X9_readItem
theorem dX9_parse_0 : decode cX9_parse 0 = .ok (.aload_n 0, 1) := by decide +kernel
theorem dX9_parse_1 : decode cX9_parse 1 = .ok (.invokevirtual 40, 3) := by decide +kernel
theorem dX9_parse_4 : decode cX9_parse 4 = .ok (.aload_n 0, 1) := by decide +kernel
theorem dX9_parse_5 : decode cX9_parse 5 = .ok (.iconst 0, 1) := by decide +kernel
theorem dX9_parse_6 : decode cX9_parse 6 = .ok (.putfield 60, 3) := by decide +kernel
theorem dX9_parse_9 : decode cX9_parse 9 = .ok (.aload_n 0, 1) := by decide +kernel
theorem dX9_parse_10 : decode cX9_parse 10 = .ok (.getfield 60, 3) := by decide +kernel
theorem dX9_parse_13 : decode cX9_parse 13 = .ok (.aload_n 0, 1) := by decide +kernel
theorem dX9_parse_14 : decode cX9_parse 14 = .ok (.getfield 63, 3) := by decide +kernel
theorem dX9_parse_17 : decode cX9_parse 17 = .ok (.if_icmp .ge 41, 3) := by decide +kernel
theorem dX9_parse_20 : decode cX9_parse 20 = .ok (.aload_n 0, 1) := by decide +kernel
theorem dX9_parse_21 : decode cX9_parse 21 = .ok (.getfield 60, 3) := by decide +kernel
theorem dX9_parse_24 : decode cX9_parse 24 = .ok (.istore_n 1, 1) := by decide +kernel
theorem dX9_parse_25 : decode cX9_parse 25 = .ok (.aload_n 0, 1) := by decide +kernel
theorem dX9_parse_26 : decode cX9_parse 26 = .ok (.getfield 7, 3) := by decide +kernel
theorem dX9_parse_29 : decode cX9_parse 29 = .ok (.aload_n 0, 1) := by decide +kernel
theorem dX9_parse_30 : decode cX9_parse 30 = .ok (.getfield 60, 3) := by decide +kernel
theorem dX9_parse_33 : decode cX9_parse 33 = .ok (.iaload, 1) := by decide +kernel
theorem dX9_parse_34 : decode cX9_parse 34 = .ok (.istore_n 2, 1) := by decide +kernel
theorem dX9_parse_35 : decode cX9_parse 35 = .ok (.aload_n 0, 1) := by decide +kernel
theorem dX9_parse_36 : decode cX9_parse 36 = .ok (.dup, 1) := by decide +kernel
theorem dX9_parse_37 : decode cX9_parse 37 = .ok (.getfield 60, 3) := by decide +kernel
theorem dX9_parse_40 : decode cX9_parse 40 = .ok (.iconst 1, 1) := by decide +kernel
theorem dX9_parse_41 : decode cX9_parse 41 = .ok (.iadd, 1) := by decide +kernel
theorem dX9_parse_42 : decode cX9_parse 42 = .ok (.putfield 60, 3) := by decide +kernel
theorem dX9_parse_45 : decode cX9_parse 45 = .ok (.aload_n 0, 1) := by decide +kernel
theorem dX9_parse_46 : decode cX9_parse 46 = .ok (.iload_n 2, 1) := by decide +kernel
theorem dX9_parse_47 : decode cX9_parse 47 = .ok (.invokevirtual 84, 3) := by decide +kernel
theorem dX9_parse_50 : decode cX9_parse 50 = .ok (.ifCond .ne 5, 3) := by decide +kernel
theorem dX9_parse_53 : decode cX9_parse 53 = .ok (.iload_n 1, 1) := by decide +kernel
theorem dX9_parse_54 : decode cX9_parse 54 = .ok (.ireturn, 1) := by decide +kernel
theorem dX9_parse_55 : decode cX9_parse 55 = .ok (.goto (-46), 3) := by decide +kernel
theorem dX9_parse_58 : decode cX9_parse 58 = .ok (.bipush (-4), 2) := by decide +kernel
theorem dX9_parse_60 : decode cX9_parse 60 = .ok (.ireturn, 1) := by decide +kernel
set_option maxRecDepth 20000 in
theorem ggX9_write_X9_in : GoodIn wsX9_write wsX9_in := goodIn_r _ [6] (by decide +kernel) (by decide +kernel)
set_option maxRecDepth 20000 in
theorem gX9_write_X9_in : GoodIn wsX9_write (va_wsS RX9 66 yX9_in wsX9_in) := goodIn_app (goodIn_of _ (by decide +kernel)) ggX9_write_X9_in
theorem dX9_write_0 : decode cX9_write 0 = .ok (.iload_n 1, 1) := by decide +kernel
theorem dX9_write_1 : decode cX9_write 1 = .ok (.bipush 32, 2) := by decide +kernel
theorem dX9_write_3 : decode cX9_write 3 = .ok (.bipush 126, 2) := by decide +kernel
theorem dX9_write_5 : decode cX9_write 5 = .ok (.invokestatic 66, 3) := by decide +kernel
theorem dX9_write_8 : decode cX9_write 8 = .ok (.ifCond .ne 5, 3) := by decide +kernel
theorem dX9_write_11 : decode cX9_write 11 = .ok (.iconst (-1), 1) := by decide +kernel
theorem dX9_write_12 : decode cX9_write 12 = .ok (.ireturn, 1) := by decide +kernel
theorem dX9_write_13 : decode cX9_write 13 = .ok (.aload_n 0, 1) := by decide +kernel
theorem dX9_write_14 : decode cX9_write 14 = .ok (.getfield 63, 3) := by decide +kernel
theorem dX9_write_17 : decode cX9_write 17 = .ok (.sipush 200, 3) := by decide +kernel
theorem dX9_write_20 : decode cX9_write 20 = .ok (.if_icmp .ne 6, 3) := by decide +kernel
theorem dX9_write_23 : decode cX9_write 23 = .ok (.bipush (-3), 2) := by decide +kernel
theorem dX9_write_25 : decode cX9_write 25 = .ok (.ireturn, 1) := by decide +kernel
theorem dX9_write_26 : decode cX9_write 26 = .ok (.aload_n 0, 1) := by decide +kernel
theorem dX9_write_27 : decode cX9_write 27 = .ok (.getfield 7, 3) := by decide +kernel
theorem dX9_write_30 : decode cX9_write 30 = .ok (.aload_n 0, 1) := by decide +kernel
theorem dX9_write_31 : decode cX9_write 31 = .ok (.getfield 63, 3) := by decide +kernel
theorem dX9_write_34 : decode cX9_write 34 = .ok (.iload_n 1, 1) := by decide +kernel
theorem dX9_write_35 : decode cX9_write 35 = .ok (.iastore, 1) := by decide +kernel
theorem dX9_write_36 : decode cX9_write 36 = .ok (.aload_n 0, 1) := by decide +kernel
theorem dX9_write_37 : decode cX9_write 37 = .ok (.dup, 1) := by decide +kernel
theorem dX9_write_38 : decode cX9_write 38 = .ok (.getfield 63, 3) := by decide +kernel
theorem dX9_write_41 : decode cX9_write 41 = .ok (.iconst 1, 1) := by decide +kernel
theorem dX9_write_42 : decode cX9_write 42 = .ok (.iadd, 1) := by decide +kernel
theorem dX9_write_43 : decode cX9_write 43 = .ok (.putfield 63, 3) := by decide +kernel
theorem dX9_write_46 : decode cX9_write 46 = .ok (.aload_n 0, 1) := by decide +kernel
theorem dX9_write_47 : decode cX9_write 47 = .ok (.getfield 63, 3) := by decide +kernel
theorem dX9_write_50 : decode cX9_write 50 = .ok (.ireturn, 1) := by decide +kernel
theorem dX9_wipe_0 : decode cX9_wipe 0 = .ok (.aload_n 0, 1) := by decide +kernel
theorem dX9_wipe_1 : decode cX9_wipe 1 = .ok (.getfield 63, 3) := by decide +kernel
theorem dX9_wipe_4 : decode cX9_wipe 4 = .ok (.istore_n 1, 1) := by decide +kernel
theorem dX9_wipe_5 : decode cX9_wipe 5 = .ok (.aload_n 0, 1) := by decide +kernel
theorem dX9_wipe_6 : decode cX9_wipe 6 = .ok (.iconst 0, 1) := by decide +kernel
theorem dX9_wipe_7 : decode cX9_wipe 7 = .ok (.putfield 63, 3) := by decide +kernel
theorem dX9_wipe_10 : decode cX9_wipe 10 = .ok (.iload_n 1, 1) := by decide +kernel
theorem dX9_wipe_11 : decode cX9_wipe 11 = .ok (.ireturn, 1) := by decide +kernel
set_option maxRecDepth 20000 in
theorem ggX9_fault_X9_parse : GoodIn wsX9_fault wsX9_parse := goodIn_r _ [5, 6, 7, 8, 9, 10, 11, 4, 12, 13, 14, 15, 16, 17, 18, 19, 20, 21, 22, 23, 24, 25, 26, 27, 28, 29, 30, 31, 32, 33, 34, 35, 36, 37, 38, 39, 40, 41, 42, 43, 44, 45, 46, 47, 48, 49, 50, 51, 52, 53, 54, 55, 56, 57, 58, 59, 60, 61] (by decide +kernel) (by decide +kernel)
set_option maxRecDepth 20000 in
theorem gX9_fault_X9_parse : GoodIn wsX9_fault (wsV RX9 87 RX9 yX9_parse wsX9_parse) := goodIn_app (goodIn_of _ (by decide +kernel)) ggX9_fault_X9_parse
theorem dX9_fault_0 : decode cX9_fault 0 = .ok (.aload_n 0, 1) := by decide +kernel
theorem dX9_fault_1 : decode cX9_fault 1 = .ok (.invokevirtual 87, 3) := by decide +kernel
theorem dX9_fault_4 : decode cX9_fault 4 = .ok (.ireturn, 1) := by decide +kernel
set_option maxRecDepth 20000 in
theorem ggX9_lay_X9_parse : GoodIn wsX9_lay wsX9_parse := goodIn_r _ [7, 8, 9, 10, 11, 12, 13, 6, 14, 1, 15, 16, 17, 18, 19, 20, 21, 22, 23, 24, 25, 26, 27, 28, 29, 30, 31, 32, 33, 34, 35, 36, 37, 38, 39, 40, 41, 42, 43, 44, 53, 54, 55, 56, 57, 58, 59, 60, 61, 62, 63, 64, 65, 66, 67, 68, 69, 70] (by decide +kernel) (by decide +kernel)
set_option maxRecDepth 20000 in
theorem gX9_lay_X9_parse : GoodIn wsX9_lay (wsV RX9 87 RX9 yX9_parse wsX9_parse) := goodIn_app (goodIn_of _ (by decide +kernel)) ggX9_lay_X9_parse
set_option maxRecDepth 20000 in
theorem ggX9_lay_X9_takeRead : GoodIn wsX9_lay wsX9_takeRead := goodIn_r _ [48, 1, 2, 40, 49, 50, 15, 51, 52, 53, 54, 55, 56, 57, 58, 59, 60, 61, 62, 63, 64, 65, 66, 67, 68, 69, 70] (by decide +kernel) (by decide +kernel)
set_option maxRecDepth 20000 in
theorem gX9_lay_X9_takeRead : GoodIn wsX9_lay (wsV RX9 47 RX9 yX9_takeRead wsX9_takeRead) := goodIn_app (goodIn_of _ (by decide +kernel)) ggX9_lay_X9_takeRead
theorem dX9_lay_0 : decode cX9_lay 0 = .ok (.aload_n 0, 1) := by decide +kernel
theorem dX9_lay_1 : decode cX9_lay 1 = .ok (.invokevirtual 87, 3) := by decide +kernel
theorem dX9_lay_4 : decode cX9_lay 4 = .ok (.bipush (-4), 2) := by decide +kernel
theorem dX9_lay_6 : decode cX9_lay 6 = .ok (.if_icmp .ne 10, 3) := by decide +kernel
theorem dX9_lay_9 : decode cX9_lay 9 = .ok (.aload_n 0, 1) := by decide +kernel
theorem dX9_lay_10 : decode cX9_lay 10 = .ok (.getfield 50, 3) := by decide +kernel
theorem dX9_lay_13 : decode cX9_lay 13 = .ok (.ifCond .ne 6, 3) := by decide +kernel
theorem dX9_lay_16 : decode cX9_lay 16 = .ok (.bipush (-2), 2) := by decide +kernel
theorem dX9_lay_18 : decode cX9_lay 18 = .ok (.ireturn, 1) := by decide +kernel
theorem dX9_lay_19 : decode cX9_lay 19 = .ok (.aload_n 0, 1) := by decide +kernel
theorem dX9_lay_20 : decode cX9_lay 20 = .ok (.invokevirtual 47, 3) := by decide +kernel
theorem dX9_lay_23 : decode cX9_lay 23 = .ok (.aload_n 0, 1) := by decide +kernel
theorem dX9_lay_24 : decode cX9_lay 24 = .ok (.getfield 54, 3) := by decide +kernel
theorem dX9_lay_27 : decode cX9_lay 27 = .ok (.ireturn, 1) := by decide +kernel
theorem dX9_heapLength_0 : decode cX9_heapLength 0 = .ok (.aload_n 0, 1) := by decide +kernel
theorem dX9_heapLength_1 : decode cX9_heapLength 1 = .ok (.getfield 19, 3) := by decide +kernel
theorem dX9_heapLength_4 : decode cX9_heapLength 4 = .ok (.iconst 3, 1) := by decide +kernel
theorem dX9_heapLength_5 : decode cX9_heapLength 5 = .ok (.iload_n 1, 1) := by decide +kernel
theorem dX9_heapLength_6 : decode cX9_heapLength 6 = .ok (.imul, 1) := by decide +kernel
theorem dX9_heapLength_7 : decode cX9_heapLength 7 = .ok (.iaload, 1) := by decide +kernel
theorem dX9_heapLength_8 : decode cX9_heapLength 8 = .ok (.ireturn, 1) := by decide +kernel
theorem dX9_breadth_0 : decode cX9_breadth 0 = .ok (.aload_n 0, 1) := by decide +kernel
theorem dX9_breadth_1 : decode cX9_breadth 1 = .ok (.getfield 19, 3) := by decide +kernel
theorem dX9_breadth_4 : decode cX9_breadth 4 = .ok (.iconst 3, 1) := by decide +kernel
theorem dX9_breadth_5 : decode cX9_breadth 5 = .ok (.iload_n 1, 1) := by decide +kernel
theorem dX9_breadth_6 : decode cX9_breadth 6 = .ok (.imul, 1) := by decide +kernel
theorem dX9_breadth_7 : decode cX9_breadth 7 = .ok (.iconst 1, 1) := by decide +kernel
theorem dX9_breadth_8 : decode cX9_breadth 8 = .ok (.iadd, 1) := by decide +kernel
theorem dX9_breadth_9 : decode cX9_breadth 9 = .ok (.iaload, 1) := by decide +kernel
theorem dX9_breadth_10 : decode cX9_breadth 10 = .ok (.ireturn, 1) := by decide +kernel
theorem dX9_courseLength_0 : decode cX9_courseLength 0 = .ok (.aload_n 0, 1) := by decide +kernel
theorem dX9_courseLength_1 : decode cX9_courseLength 1 = .ok (.getfield 25, 3) := by decide +kernel
theorem dX9_courseLength_4 : decode cX9_courseLength 4 = .ok (.bipush 9, 2) := by decide +kernel
theorem dX9_courseLength_6 : decode cX9_courseLength 6 = .ok (.bipush 62, 2) := by decide +kernel
theorem dX9_courseLength_8 : decode cX9_courseLength 8 = .ok (.iload_n 1, 1) := by decide +kernel
theorem dX9_courseLength_9 : decode cX9_courseLength 9 = .ok (.imul, 1) := by decide +kernel
theorem dX9_courseLength_10 : decode cX9_courseLength 10 = .ok (.iadd, 1) := by decide +kernel
theorem dX9_courseLength_11 : decode cX9_courseLength 11 = .ok (.iaload, 1) := by decide +kernel
theorem dX9_courseLength_12 : decode cX9_courseLength 12 = .ok (.ireturn, 1) := by decide +kernel
theorem dX9_slateCount_0 : decode cX9_slateCount 0 = .ok (.aload_n 0, 1) := by decide +kernel
theorem dX9_slateCount_1 : decode cX9_slateCount 1 = .ok (.getfield 25, 3) := by decide +kernel
theorem dX9_slateCount_4 : decode cX9_slateCount 4 = .ok (.bipush 9, 2) := by decide +kernel
theorem dX9_slateCount_6 : decode cX9_slateCount 6 = .ok (.bipush 62, 2) := by decide +kernel
theorem dX9_slateCount_8 : decode cX9_slateCount 8 = .ok (.iload_n 1, 1) := by decide +kernel
theorem dX9_slateCount_9 : decode cX9_slateCount 9 = .ok (.imul, 1) := by decide +kernel
theorem dX9_slateCount_10 : decode cX9_slateCount 10 = .ok (.iadd, 1) := by decide +kernel
theorem dX9_slateCount_11 : decode cX9_slateCount 11 = .ok (.iconst 1, 1) := by decide +kernel
theorem dX9_slateCount_12 : decode cX9_slateCount 12 = .ok (.iadd, 1) := by decide +kernel
theorem dX9_slateCount_13 : decode cX9_slateCount 13 = .ok (.iaload, 1) := by decide +kernel
theorem dX9_slateCount_14 : decode cX9_slateCount 14 = .ok (.ireturn, 1) := by decide +kernel
theorem dX9_slateOf_0 : decode cX9_slateOf 0 = .ok (.aload_n 0, 1) := by decide +kernel
theorem dX9_slateOf_1 : decode cX9_slateOf 1 = .ok (.getfield 25, 3) := by decide +kernel
theorem dX9_slateOf_4 : decode cX9_slateOf 4 = .ok (.bipush 9, 2) := by decide +kernel
theorem dX9_slateOf_6 : decode cX9_slateOf 6 = .ok (.bipush 62, 2) := by decide +kernel
theorem dX9_slateOf_8 : decode cX9_slateOf 8 = .ok (.iload_n 1, 1) := by decide +kernel
theorem dX9_slateOf_9 : decode cX9_slateOf 9 = .ok (.imul, 1) := by decide +kernel
theorem dX9_slateOf_10 : decode cX9_slateOf 10 = .ok (.iadd, 1) := by decide +kernel
theorem dX9_slateOf_11 : decode cX9_slateOf 11 = .ok (.iconst 2, 1) := by decide +kernel
theorem dX9_slateOf_12 : decode cX9_slateOf 12 = .ok (.iadd, 1) := by decide +kernel
theorem dX9_slateOf_13 : decode cX9_slateOf 13 = .ok (.iload_n 2, 1) := by decide +kernel
theorem dX9_slateOf_14 : decode cX9_slateOf 14 = .ok (.iadd, 1) := by decide +kernel
theorem dX9_slateOf_15 : decode cX9_slateOf 15 = .ok (.iaload, 1) := by decide +kernel
theorem dX9_slateOf_16 : decode cX9_slateOf 16 = .ok (.ireturn, 1) := by decide +kernel
theorem dX9_gauge_0 : decode cX9_gauge 0 = .ok (.iload_n 1, 1) := by decide +kernel
theorem dX9_gauge_1 : decode cX9_gauge 1 = .ok (.aload_n 0, 1) := by decide +kernel
theorem dX9_gauge_2 : decode cX9_gauge 2 = .ok (.getfield 13, 3) := by decide +kernel
theorem dX9_gauge_5 : decode cX9_gauge 5 = .ok (.iconst 2, 1) := by decide +kernel
theorem dX9_gauge_6 : decode cX9_gauge 6 = .ok (.iaload, 1) := by decide +kernel
theorem dX9_gauge_7 : decode cX9_gauge 7 = .ok (.isub, 1) := by decide +kernel
theorem dX9_gauge_8 : decode cX9_gauge 8 = .ok (.iconst 2, 1) := by decide +kernel
theorem dX9_gauge_9 : decode cX9_gauge 9 = .ok (.idiv, 1) := by decide +kernel
theorem dX9_gauge_10 : decode cX9_gauge 10 = .ok (.ireturn, 1) := by decide +kernel
set_option maxRecDepth 20000 in
theorem ggX9_foot_X9_courseLength : GoodIn wsX9_foot wsX9_courseLength := goodIn_r _ [5, 6, 12, 13, 14, 15, 16, 17, 18, 19, 20, 21, 22, 23, 24, 25, 26, 27, 28, 29] (by decide +kernel) (by decide +kernel)
set_option maxRecDepth 20000 in
theorem gX9_foot_X9_courseLength : GoodIn wsX9_foot (wsV RX9 91 RX9 yX9_courseLength wsX9_courseLength) := goodIn_app (goodIn_of _ (by decide +kernel)) ggX9_foot_X9_courseLength
set_option maxRecDepth 20000 in
theorem ggX9_foot_X9_gauge : GoodIn wsX9_foot wsX9_gauge := goodIn_r _ [10, 11, 12, 13, 14, 15, 16, 17, 18, 19, 20, 21, 22, 23, 24, 25, 26, 27, 28, 29] (by decide +kernel) (by decide +kernel)
set_option maxRecDepth 20000 in
theorem gX9_foot_X9_gauge : GoodIn wsX9_foot (wsV RX9 95 RX9 yX9_gauge wsX9_gauge) := goodIn_app (goodIn_of _ (by decide +kernel)) ggX9_foot_X9_gauge
theorem dX9_foot_0 : decode cX9_foot 0 = .ok (.iconst 0, 1) := by decide +kernel
theorem dX9_foot_1 : decode cX9_foot 1 = .ok (.istore_n 2, 1) := by decide +kernel
theorem dX9_foot_2 : decode cX9_foot 2 = .ok (.iconst 0, 1) := by decide +kernel
theorem dX9_foot_3 : decode cX9_foot 3 = .ok (.istore_n 3, 1) := by decide +kernel
theorem dX9_foot_4 : decode cX9_foot 4 = .ok (.iload_n 3, 1) := by decide +kernel
theorem dX9_foot_5 : decode cX9_foot 5 = .ok (.iload_n 1, 1) := by decide +kernel
theorem dX9_foot_6 : decode cX9_foot 6 = .ok (.if_icmp .ge 21, 3) := by decide +kernel
theorem dX9_foot_9 : decode cX9_foot 9 = .ok (.iload_n 2, 1) := by decide +kernel
theorem dX9_foot_10 : decode cX9_foot 10 = .ok (.aload_n 0, 1) := by decide +kernel
theorem dX9_foot_11 : decode cX9_foot 11 = .ok (.aload_n 0, 1) := by decide +kernel
theorem dX9_foot_12 : decode cX9_foot 12 = .ok (.iload_n 3, 1) := by decide +kernel
theorem dX9_foot_13 : decode cX9_foot 13 = .ok (.invokevirtual 91, 3) := by decide +kernel
theorem dX9_foot_16 : decode cX9_foot 16 = .ok (.invokevirtual 95, 3) := by decide +kernel
theorem dX9_foot_19 : decode cX9_foot 19 = .ok (.iadd, 1) := by decide +kernel
theorem dX9_foot_20 : decode cX9_foot 20 = .ok (.istore_n 2, 1) := by decide +kernel
theorem dX9_foot_21 : decode cX9_foot 21 = .ok (.iinc 3 1, 3) := by decide +kernel
theorem dX9_foot_24 : decode cX9_foot 24 = .ok (.goto (-20), 3) := by decide +kernel
theorem dX9_foot_27 : decode cX9_foot 27 = .ok (.iload_n 2, 1) := by decide +kernel
theorem dX9_foot_28 : decode cX9_foot 28 = .ok (.ireturn, 1) := by decide +kernel
set_option maxRecDepth 20000 in
theorem ggX9_room_X9_foot : GoodIn wsX9_room wsX9_foot := goodIn_r _ [6, 7, 8, 9, 5, 10, 11, 12, 13, 14, 15, 1, 16, 17, 18, 19, 20, 21, 22, 23, 24, 25, 26, 27, 28, 29, 30, 31, 32, 33] (by decide +kernel) (by decide +kernel)
set_option maxRecDepth 20000 in
theorem gX9_room_X9_foot : GoodIn wsX9_room (wsV RX9 98 RX9 yX9_foot wsX9_foot) := goodIn_app (goodIn_of _ (by decide +kernel)) ggX9_room_X9_foot
theorem dX9_room_0 : decode cX9_room 0 = .ok (.aload_n 0, 1) := by decide +kernel
theorem dX9_room_1 : decode cX9_room 1 = .ok (.getfield 13, 3) := by decide +kernel
theorem dX9_room_4 : decode cX9_room 4 = .ok (.iconst 1, 1) := by decide +kernel
theorem dX9_room_5 : decode cX9_room 5 = .ok (.iaload, 1) := by decide +kernel
theorem dX9_room_6 : decode cX9_room 6 = .ok (.aload_n 0, 1) := by decide +kernel
theorem dX9_room_7 : decode cX9_room 7 = .ok (.getfield 13, 3) := by decide +kernel
theorem dX9_room_10 : decode cX9_room 10 = .ok (.iconst 4, 1) := by decide +kernel
theorem dX9_room_11 : decode cX9_room 11 = .ok (.iaload, 1) := by decide +kernel
theorem dX9_room_12 : decode cX9_room 12 = .ok (.aload_n 0, 1) := by decide +kernel
theorem dX9_room_13 : decode cX9_room 13 = .ok (.iload_n 1, 1) := by decide +kernel
theorem dX9_room_14 : decode cX9_room 14 = .ok (.invokevirtual 98, 3) := by decide +kernel
theorem dX9_room_17 : decode cX9_room 17 = .ok (.imul, 1) := by decide +kernel
theorem dX9_room_18 : decode cX9_room 18 = .ok (.bipush 10, 2) := by decide +kernel
theorem dX9_room_20 : decode cX9_room 20 = .ok (.idiv, 1) := by decide +kernel
theorem dX9_room_21 : decode cX9_room 21 = .ok (.isub, 1) := by decide +kernel
theorem dX9_room_22 : decode cX9_room 22 = .ok (.istore_n 2, 1) := by decide +kernel
theorem dX9_room_23 : decode cX9_room 23 = .ok (.iload_n 2, 1) := by decide +kernel
theorem dX9_room_24 : decode cX9_room 24 = .ok (.bipush 20, 2) := by decide +kernel
theorem dX9_room_26 : decode cX9_room 26 = .ok (.if_icmp .ge 8, 3) := by decide +kernel
theorem dX9_room_29 : decode cX9_room 29 = .ok (.bipush 20, 2) := by decide +kernel
theorem dX9_room_31 : decode cX9_room 31 = .ok (.goto 4, 3) := by decide +kernel
theorem dX9_room_34 : decode cX9_room 34 = .ok (.iload_n 2, 1) := by decide +kernel
theorem dX9_room_35 : decode cX9_room 35 = .ok (.ireturn, 1) := by decide +kernel
set_option maxRecDepth 20000 in
theorem ggX9_isReady_X9_foot : GoodIn wsX9_isReady wsX9_foot := goodIn_r _ [7, 8, 9, 10, 6, 11, 1, 12, 13, 14, 15, 2, 16, 17, 18, 19, 20, 21, 22, 23, 24, 25, 26, 27, 28, 29, 30, 31, 32, 33] (by decide +kernel) (by decide +kernel)
set_option maxRecDepth 20000 in
theorem gX9_isReady_X9_foot : GoodIn wsX9_isReady (wsV RX9 98 RX9 yX9_foot wsX9_foot) := goodIn_app (goodIn_of _ (by decide +kernel)) ggX9_isReady_X9_foot
theorem dX9_isReady_0 : decode cX9_isReady 0 = .ok (.aload_n 0, 1) := by decide +kernel
theorem dX9_isReady_1 : decode cX9_isReady 1 = .ok (.getfield 25, 3) := by decide +kernel
theorem dX9_isReady_4 : decode cX9_isReady 4 = .ok (.bipush 8, 2) := by decide +kernel
theorem dX9_isReady_6 : decode cX9_isReady 6 = .ok (.iaload, 1) := by decide +kernel
theorem dX9_isReady_7 : decode cX9_isReady 7 = .ok (.ifCond .le 27, 3) := by decide +kernel
theorem dX9_isReady_10 : decode cX9_isReady 10 = .ok (.aload_n 0, 1) := by decide +kernel
theorem dX9_isReady_11 : decode cX9_isReady 11 = .ok (.aload_n 0, 1) := by decide +kernel
theorem dX9_isReady_12 : decode cX9_isReady 12 = .ok (.getfield 25, 3) := by decide +kernel
theorem dX9_isReady_15 : decode cX9_isReady 15 = .ok (.bipush 8, 2) := by decide +kernel
theorem dX9_isReady_17 : decode cX9_isReady 17 = .ok (.iaload, 1) := by decide +kernel
theorem dX9_isReady_18 : decode cX9_isReady 18 = .ok (.invokevirtual 98, 3) := by decide +kernel
theorem dX9_isReady_21 : decode cX9_isReady 21 = .ok (.aload_n 0, 1) := by decide +kernel
theorem dX9_isReady_22 : decode cX9_isReady 22 = .ok (.getfield 13, 3) := by decide +kernel
theorem dX9_isReady_25 : decode cX9_isReady 25 = .ok (.iconst 0, 1) := by decide +kernel
theorem dX9_isReady_26 : decode cX9_isReady 26 = .ok (.iaload, 1) := by decide +kernel
theorem dX9_isReady_27 : decode cX9_isReady 27 = .ok (.if_icmp .lt 7, 3) := by decide +kernel
theorem dX9_isReady_30 : decode cX9_isReady 30 = .ok (.iconst 1, 1) := by decide +kernel
theorem dX9_isReady_31 : decode cX9_isReady 31 = .ok (.goto 4, 3) := by decide +kernel
theorem dX9_isReady_34 : decode cX9_isReady 34 = .ok (.iconst 0, 1) := by decide +kernel
theorem dX9_isReady_35 : decode cX9_isReady 35 = .ok (.ireturn, 1) := by decide +kernel
set_option maxRecDepth 20000 in
theorem ggX9_waste_X9_slateCount : GoodIn wsX9_waste wsX9_slateCount := goodIn_r _ [5, 6, 20, 21, 22, 23, 24, 25, 26, 27, 28, 29, 30, 31, 32, 33, 34, 35, 36, 37] (by decide +kernel) (by decide +kernel)
set_option maxRecDepth 20000 in
theorem gX9_waste_X9_slateCount : GoodIn wsX9_waste (wsV RX9 101 RX9 yX9_slateCount wsX9_slateCount) := goodIn_app (goodIn_of _ (by decide +kernel)) ggX9_waste_X9_slateCount
set_option maxRecDepth 20000 in
theorem ggX9_waste_X9_slateOf : GoodIn wsX9_waste wsX9_slateOf := goodIn_r _ [10, 6, 20, 21, 22, 23, 24, 25, 26, 27, 28, 29, 30, 31, 32, 33, 34, 35, 36, 37] (by decide +kernel) (by decide +kernel)
set_option maxRecDepth 20000 in
theorem gX9_waste_X9_slateOf : GoodIn wsX9_waste (wsV RX9 104 RX9 yX9_slateOf wsX9_slateOf) := goodIn_app (goodIn_of _ (by decide +kernel)) ggX9_waste_X9_slateOf
set_option maxRecDepth 20000 in
theorem ggX9_waste_X9_breadth : GoodIn wsX9_waste wsX9_breadth := goodIn_r _ [14, 15, 20, 21, 22, 23, 24, 25, 26, 27, 28, 29, 30, 31, 32, 33, 34, 35, 36, 37] (by decide +kernel) (by decide +kernel)
set_option maxRecDepth 20000 in
theorem gX9_waste_X9_breadth : GoodIn wsX9_waste (wsV RX9 108 RX9 yX9_breadth wsX9_breadth) := goodIn_app (goodIn_of _ (by decide +kernel)) ggX9_waste_X9_breadth
set_option maxRecDepth 20000 in
theorem ggX9_waste_X9_courseLength : GoodIn wsX9_waste wsX9_courseLength := goodIn_r _ [19, 6, 20, 21, 22, 23, 24, 25, 26, 27, 28, 29, 30, 31, 32, 33, 34, 35, 36, 37] (by decide +kernel) (by decide +kernel)
set_option maxRecDepth 20000 in
theorem gX9_waste_X9_courseLength : GoodIn wsX9_waste (wsV RX9 91 RX9 yX9_courseLength wsX9_courseLength) := goodIn_app (goodIn_of _ (by decide +kernel)) ggX9_waste_X9_courseLength
theorem dX9_waste_0 : decode cX9_waste 0 = .ok (.iconst 0, 1) := by decide +kernel
theorem dX9_waste_1 : decode cX9_waste 1 = .ok (.istore_n 2, 1) := by decide +kernel
theorem dX9_waste_2 : decode cX9_waste 2 = .ok (.iconst 0, 1) := by decide +kernel
theorem dX9_waste_3 : decode cX9_waste 3 = .ok (.istore_n 3, 1) := by decide +kernel
theorem dX9_waste_4 : decode cX9_waste 4 = .ok (.iload_n 3, 1) := by decide +kernel
theorem dX9_waste_5 : decode cX9_waste 5 = .ok (.aload_n 0, 1) := by decide +kernel
theorem dX9_waste_6 : decode cX9_waste 6 = .ok (.iload_n 1, 1) := by decide +kernel
theorem dX9_waste_7 : decode cX9_waste 7 = .ok (.invokevirtual 101, 3) := by decide +kernel
theorem dX9_waste_10 : decode cX9_waste 10 = .ok (.if_icmp .ge 35, 3) := by decide +kernel
theorem dX9_waste_13 : decode cX9_waste 13 = .ok (.iload_n 2, 1) := by decide +kernel
theorem dX9_waste_14 : decode cX9_waste 14 = .ok (.aload_n 0, 1) := by decide +kernel
theorem dX9_waste_15 : decode cX9_waste 15 = .ok (.aload_n 0, 1) := by decide +kernel
theorem dX9_waste_16 : decode cX9_waste 16 = .ok (.iload_n 1, 1) := by decide +kernel
theorem dX9_waste_17 : decode cX9_waste 17 = .ok (.iload_n 3, 1) := by decide +kernel
theorem dX9_waste_18 : decode cX9_waste 18 = .ok (.invokevirtual 104, 3) := by decide +kernel
theorem dX9_waste_21 : decode cX9_waste 21 = .ok (.bipush 64, 2) := by decide +kernel
theorem dX9_waste_23 : decode cX9_waste 23 = .ok (.idiv, 1) := by decide +kernel
theorem dX9_waste_24 : decode cX9_waste 24 = .ok (.invokevirtual 108, 3) := by decide +kernel
theorem dX9_waste_27 : decode cX9_waste 27 = .ok (.aload_n 0, 1) := by decide +kernel
theorem dX9_waste_28 : decode cX9_waste 28 = .ok (.iload_n 1, 1) := by decide +kernel
theorem dX9_waste_29 : decode cX9_waste 29 = .ok (.iload_n 3, 1) := by decide +kernel
theorem dX9_waste_30 : decode cX9_waste 30 = .ok (.invokevirtual 104, 3) := by decide +kernel
theorem dX9_waste_33 : decode cX9_waste 33 = .ok (.bipush 64, 2) := by decide +kernel
theorem dX9_waste_35 : decode cX9_waste 35 = .ok (.irem, 1) := by decide +kernel
theorem dX9_waste_36 : decode cX9_waste 36 = .ok (.isub, 1) := by decide +kernel
theorem dX9_waste_37 : decode cX9_waste 37 = .ok (.iadd, 1) := by decide +kernel
theorem dX9_waste_38 : decode cX9_waste 38 = .ok (.istore_n 2, 1) := by decide +kernel
theorem dX9_waste_39 : decode cX9_waste 39 = .ok (.iinc 3 1, 3) := by decide +kernel
theorem dX9_waste_42 : decode cX9_waste 42 = .ok (.goto (-38), 3) := by decide +kernel
theorem dX9_waste_45 : decode cX9_waste 45 = .ok (.iload_n 2, 1) := by decide +kernel
theorem dX9_waste_46 : decode cX9_waste 46 = .ok (.aload_n 0, 1) := by decide +kernel
theorem dX9_waste_47 : decode cX9_waste 47 = .ok (.iload_n 1, 1) := by decide +kernel
theorem dX9_waste_48 : decode cX9_waste 48 = .ok (.invokevirtual 91, 3) := by decide +kernel
theorem dX9_waste_51 : decode cX9_waste 51 = .ok (.imul, 1) := by decide +kernel
theorem dX9_waste_52 : decode cX9_waste 52 = .ok (.ireturn, 1) := by decide +kernel
set_option maxRecDepth 20000 in
theorem ggX9_cutCount_X9_slateCount : GoodIn wsX9_cutCount wsX9_slateCount := goodIn_r _ [5, 6, 16, 17, 18, 19, 20, 21, 22, 23, 24, 25, 26, 27, 28, 29, 30, 31, 32, 33] (by decide +kernel) (by decide +kernel)
set_option maxRecDepth 20000 in
theorem gX9_cutCount_X9_slateCount : GoodIn wsX9_cutCount (wsV RX9 101 RX9 yX9_slateCount wsX9_slateCount) := goodIn_app (goodIn_of _ (by decide +kernel)) ggX9_cutCount_X9_slateCount
set_option maxRecDepth 20000 in
theorem ggX9_cutCount_X9_slateOf : GoodIn wsX9_cutCount wsX9_slateOf := goodIn_r _ [10, 6, 16, 17, 18, 19, 20, 21, 22, 23, 24, 25, 26, 27, 28, 29, 30, 31, 32, 33] (by decide +kernel) (by decide +kernel)
set_option maxRecDepth 20000 in
theorem gX9_cutCount_X9_slateOf : GoodIn wsX9_cutCount (wsV RX9 104 RX9 yX9_slateOf wsX9_slateOf) := goodIn_app (goodIn_of _ (by decide +kernel)) ggX9_cutCount_X9_slateOf
set_option maxRecDepth 20000 in
theorem ggX9_cutCount_X9_breadth : GoodIn wsX9_cutCount wsX9_breadth := goodIn_r _ [14, 15, 16, 17, 18, 19, 20, 21, 22, 23, 24, 25, 26, 27, 28, 29, 30, 31, 32, 33] (by decide +kernel) (by decide +kernel)
set_option maxRecDepth 20000 in
theorem gX9_cutCount_X9_breadth : GoodIn wsX9_cutCount (wsV RX9 108 RX9 yX9_breadth wsX9_breadth) := goodIn_app (goodIn_of _ (by decide +kernel)) ggX9_cutCount_X9_breadth
theorem dX9_cutCount_0 : decode cX9_cutCount 0 = .ok (.iconst 0, 1) := by decide +kernel
theorem dX9_cutCount_1 : decode cX9_cutCount 1 = .ok (.istore_n 2, 1) := by decide +kernel
theorem dX9_cutCount_2 : decode cX9_cutCount 2 = .ok (.iconst 0, 1) := by decide +kernel
theorem dX9_cutCount_3 : decode cX9_cutCount 3 = .ok (.istore_n 3, 1) := by decide +kernel
theorem dX9_cutCount_4 : decode cX9_cutCount 4 = .ok (.iload_n 3, 1) := by decide +kernel
theorem dX9_cutCount_5 : decode cX9_cutCount 5 = .ok (.aload_n 0, 1) := by decide +kernel
theorem dX9_cutCount_6 : decode cX9_cutCount 6 = .ok (.iload_n 1, 1) := by decide +kernel
theorem dX9_cutCount_7 : decode cX9_cutCount 7 = .ok (.invokevirtual 101, 3) := by decide +kernel
theorem dX9_cutCount_10 : decode cX9_cutCount 10 = .ok (.if_icmp .ge 42, 3) := by decide +kernel
theorem dX9_cutCount_13 : decode cX9_cutCount 13 = .ok (.iload_n 2, 1) := by decide +kernel
theorem dX9_cutCount_14 : decode cX9_cutCount 14 = .ok (.aload_n 0, 1) := by decide +kernel
theorem dX9_cutCount_15 : decode cX9_cutCount 15 = .ok (.iload_n 1, 1) := by decide +kernel
theorem dX9_cutCount_16 : decode cX9_cutCount 16 = .ok (.iload_n 3, 1) := by decide +kernel
theorem dX9_cutCount_17 : decode cX9_cutCount 17 = .ok (.invokevirtual 104, 3) := by decide +kernel
theorem dX9_cutCount_20 : decode cX9_cutCount 20 = .ok (.bipush 64, 2) := by decide +kernel
theorem dX9_cutCount_22 : decode cX9_cutCount 22 = .ok (.irem, 1) := by decide +kernel
theorem dX9_cutCount_23 : decode cX9_cutCount 23 = .ok (.aload_n 0, 1) := by decide +kernel
theorem dX9_cutCount_24 : decode cX9_cutCount 24 = .ok (.aload_n 0, 1) := by decide +kernel
theorem dX9_cutCount_25 : decode cX9_cutCount 25 = .ok (.iload_n 1, 1) := by decide +kernel
theorem dX9_cutCount_26 : decode cX9_cutCount 26 = .ok (.iload_n 3, 1) := by decide +kernel
theorem dX9_cutCount_27 : decode cX9_cutCount 27 = .ok (.invokevirtual 104, 3) := by decide +kernel
theorem dX9_cutCount_30 : decode cX9_cutCount 30 = .ok (.bipush 64, 2) := by decide +kernel
theorem dX9_cutCount_32 : decode cX9_cutCount 32 = .ok (.idiv, 1) := by decide +kernel
theorem dX9_cutCount_33 : decode cX9_cutCount 33 = .ok (.invokevirtual 108, 3) := by decide +kernel
theorem dX9_cutCount_36 : decode cX9_cutCount 36 = .ok (.if_icmp .ge 7, 3) := by decide +kernel
theorem dX9_cutCount_39 : decode cX9_cutCount 39 = .ok (.iconst 1, 1) := by decide +kernel
theorem dX9_cutCount_40 : decode cX9_cutCount 40 = .ok (.goto 4, 3) := by decide +kernel
theorem dX9_cutCount_43 : decode cX9_cutCount 43 = .ok (.iconst 0, 1) := by decide +kernel
theorem dX9_cutCount_44 : decode cX9_cutCount 44 = .ok (.iadd, 1) := by decide +kernel
theorem dX9_cutCount_45 : decode cX9_cutCount 45 = .ok (.istore_n 2, 1) := by decide +kernel
theorem dX9_cutCount_46 : decode cX9_cutCount 46 = .ok (.iinc 3 1, 3) := by decide +kernel
theorem dX9_cutCount_49 : decode cX9_cutCount 49 = .ok (.goto (-45), 3) := by decide +kernel
theorem dX9_cutCount_52 : decode cX9_cutCount 52 = .ok (.iload_n 2, 1) := by decide +kernel
theorem dX9_cutCount_53 : decode cX9_cutCount 53 = .ok (.ireturn, 1) := by decide +kernel
set_option maxRecDepth 20000 in
theorem ggX9_findJoints_X9_slateCount : GoodIn wsX9_findJoints wsX9_slateCount := goodIn_r _ [7, 8, 13, 14, 15, 16, 17, 18, 19, 20, 21, 22, 23, 24, 25, 26, 27, 28, 29, 30] (by decide +kernel) (by decide +kernel)
set_option maxRecDepth 20000 in
theorem gX9_findJoints_X9_slateCount : GoodIn wsX9_findJoints (wsV RX9 101 RX9 yX9_slateCount wsX9_slateCount) := goodIn_app (goodIn_of _ (by decide +kernel)) ggX9_findJoints_X9_slateCount
set_option maxRecDepth 20000 in
theorem ggX9_findJoints_X9_slateOf : GoodIn wsX9_findJoints wsX9_slateOf := goodIn_r _ [12, 8, 13, 14, 15, 16, 17, 18, 19, 20, 21, 22, 23, 24, 25, 26, 27, 28, 29, 30] (by decide +kernel) (by decide +kernel)
set_option maxRecDepth 20000 in
theorem gX9_findJoints_X9_slateOf : GoodIn wsX9_findJoints (wsV RX9 104 RX9 yX9_slateOf wsX9_slateOf) := goodIn_app (goodIn_of _ (by decide +kernel)) ggX9_findJoints_X9_slateOf
theorem dX9_findJoints_0 : decode cX9_findJoints 0 = .ok (.aload_n 0, 1) := by decide +kernel
theorem dX9_findJoints_1 : decode cX9_findJoints 1 = .ok (.iconst 0, 1) := by decide +kernel
theorem dX9_findJoints_2 : decode cX9_findJoints 2 = .ok (.putfield 111, 3) := by decide +kernel
theorem dX9_findJoints_5 : decode cX9_findJoints 5 = .ok (.iconst 0, 1) := by decide +kernel
theorem dX9_findJoints_6 : decode cX9_findJoints 6 = .ok (.istore_n 2, 1) := by decide +kernel
theorem dX9_findJoints_7 : decode cX9_findJoints 7 = .ok (.iconst 0, 1) := by decide +kernel
theorem dX9_findJoints_8 : decode cX9_findJoints 8 = .ok (.istore_n 3, 1) := by decide +kernel
theorem dX9_findJoints_9 : decode cX9_findJoints 9 = .ok (.iload_n 1, 1) := by decide +kernel
theorem dX9_findJoints_10 : decode cX9_findJoints 10 = .ok (.ifCond .lt 49, 3) := by decide +kernel
theorem dX9_findJoints_13 : decode cX9_findJoints 13 = .ok (.iload_n 3, 1) := by decide +kernel
theorem dX9_findJoints_14 : decode cX9_findJoints 14 = .ok (.iconst 1, 1) := by decide +kernel
theorem dX9_findJoints_15 : decode cX9_findJoints 15 = .ok (.iadd, 1) := by decide +kernel
theorem dX9_findJoints_16 : decode cX9_findJoints 16 = .ok (.aload_n 0, 1) := by decide +kernel
theorem dX9_findJoints_17 : decode cX9_findJoints 17 = .ok (.iload_n 1, 1) := by decide +kernel
theorem dX9_findJoints_18 : decode cX9_findJoints 18 = .ok (.invokevirtual 101, 3) := by decide +kernel
theorem dX9_findJoints_21 : decode cX9_findJoints 21 = .ok (.if_icmp .ge 38, 3) := by decide +kernel
theorem dX9_findJoints_24 : decode cX9_findJoints 24 = .ok (.iload_n 2, 1) := by decide +kernel
theorem dX9_findJoints_25 : decode cX9_findJoints 25 = .ok (.aload_n 0, 1) := by decide +kernel
theorem dX9_findJoints_26 : decode cX9_findJoints 26 = .ok (.iload_n 1, 1) := by decide +kernel
theorem dX9_findJoints_27 : decode cX9_findJoints 27 = .ok (.iload_n 3, 1) := by decide +kernel
theorem dX9_findJoints_28 : decode cX9_findJoints 28 = .ok (.invokevirtual 104, 3) := by decide +kernel
theorem dX9_findJoints_31 : decode cX9_findJoints 31 = .ok (.bipush 64, 2) := by decide +kernel
theorem dX9_findJoints_33 : decode cX9_findJoints 33 = .ok (.irem, 1) := by decide +kernel
theorem dX9_findJoints_34 : decode cX9_findJoints 34 = .ok (.iadd, 1) := by decide +kernel
theorem dX9_findJoints_35 : decode cX9_findJoints 35 = .ok (.istore_n 2, 1) := by decide +kernel
theorem dX9_findJoints_36 : decode cX9_findJoints 36 = .ok (.aload_n 0, 1) := by decide +kernel
theorem dX9_findJoints_37 : decode cX9_findJoints 37 = .ok (.getfield 37, 3) := by decide +kernel
theorem dX9_findJoints_40 : decode cX9_findJoints 40 = .ok (.iload_n 3, 1) := by decide +kernel
theorem dX9_findJoints_41 : decode cX9_findJoints 41 = .ok (.iload_n 2, 1) := by decide +kernel
theorem dX9_findJoints_42 : decode cX9_findJoints 42 = .ok (.iastore, 1) := by decide +kernel
theorem dX9_findJoints_43 : decode cX9_findJoints 43 = .ok (.aload_n 0, 1) := by decide +kernel
theorem dX9_findJoints_44 : decode cX9_findJoints 44 = .ok (.dup, 1) := by decide +kernel
theorem dX9_findJoints_45 : decode cX9_findJoints 45 = .ok (.getfield 111, 3) := by decide +kernel
theorem dX9_findJoints_48 : decode cX9_findJoints 48 = .ok (.iconst 1, 1) := by decide +kernel
theorem dX9_findJoints_49 : decode cX9_findJoints 49 = .ok (.iadd, 1) := by decide +kernel
theorem dX9_findJoints_50 : decode cX9_findJoints 50 = .ok (.putfield 111, 3) := by decide +kernel
theorem dX9_findJoints_53 : decode cX9_findJoints 53 = .ok (.iinc 3 1, 3) := by decide +kernel
theorem dX9_findJoints_56 : decode cX9_findJoints 56 = .ok (.goto (-47), 3) := by decide +kernel
theorem dX9_findJoints_59 : decode cX9_findJoints 59 = .ok (.return_, 1) := by decide +kernel
theorem dX9_isBroken_0 : decode cX9_isBroken 0 = .ok (.iconst 1, 1) := by decide +kernel
theorem dX9_isBroken_1 : decode cX9_isBroken 1 = .ok (.istore_n 2, 1) := by decide +kernel
theorem dX9_isBroken_2 : decode cX9_isBroken 2 = .ok (.iconst 0, 1) := by decide +kernel
theorem dX9_isBroken_3 : decode cX9_isBroken 3 = .ok (.istore_n 3, 1) := by decide +kernel
theorem dX9_isBroken_4 : decode cX9_isBroken 4 = .ok (.iload_n 3, 1) := by decide +kernel
theorem dX9_isBroken_5 : decode cX9_isBroken 5 = .ok (.aload_n 0, 1) := by decide +kernel
theorem dX9_isBroken_6 : decode cX9_isBroken 6 = .ok (.getfield 111, 3) := by decide +kernel
theorem dX9_isBroken_9 : decode cX9_isBroken 9 = .ok (.if_icmp .ge 52, 3) := by decide +kernel
theorem dX9_isBroken_12 : decode cX9_isBroken 12 = .ok (.iload_n 1, 1) := by decide +kernel
theorem dX9_isBroken_13 : decode cX9_isBroken 13 = .ok (.aload_n 0, 1) := by decide +kernel
theorem dX9_isBroken_14 : decode cX9_isBroken 14 = .ok (.getfield 37, 3) := by decide +kernel
theorem dX9_isBroken_17 : decode cX9_isBroken 17 = .ok (.iload_n 3, 1) := by decide +kernel
theorem dX9_isBroken_18 : decode cX9_isBroken 18 = .ok (.iaload, 1) := by decide +kernel
theorem dX9_isBroken_19 : decode cX9_isBroken 19 = .ok (.isub, 1) := by decide +kernel
theorem dX9_isBroken_20 : decode cX9_isBroken 20 = .ok (.istore 4, 2) := by decide +kernel
theorem dX9_isBroken_22 : decode cX9_isBroken 22 = .ok (.iload_n 2, 1) := by decide +kernel
theorem dX9_isBroken_23 : decode cX9_isBroken 23 = .ok (.ifCond .eq 30, 3) := by decide +kernel
theorem dX9_isBroken_26 : decode cX9_isBroken 26 = .ok (.iload 4, 2) := by decide +kernel
theorem dX9_isBroken_28 : decode cX9_isBroken 28 = .ok (.aload_n 0, 1) := by decide +kernel
theorem dX9_isBroken_29 : decode cX9_isBroken 29 = .ok (.getfield 13, 3) := by decide +kernel
theorem dX9_isBroken_32 : decode cX9_isBroken 32 = .ok (.iconst 3, 1) := by decide +kernel
theorem dX9_isBroken_33 : decode cX9_isBroken 33 = .ok (.iaload, 1) := by decide +kernel
theorem dX9_isBroken_34 : decode cX9_isBroken 34 = .ok (.if_icmp .ge 15, 3) := by decide +kernel
theorem dX9_isBroken_37 : decode cX9_isBroken 37 = .ok (.iload 4, 2) := by decide +kernel
theorem dX9_isBroken_39 : decode cX9_isBroken 39 = .ok (.aload_n 0, 1) := by decide +kernel
theorem dX9_isBroken_40 : decode cX9_isBroken 40 = .ok (.getfield 13, 3) := by decide +kernel
theorem dX9_isBroken_43 : decode cX9_isBroken 43 = .ok (.iconst 3, 1) := by decide +kernel
theorem dX9_isBroken_44 : decode cX9_isBroken 44 = .ok (.iaload, 1) := by decide +kernel
theorem dX9_isBroken_45 : decode cX9_isBroken 45 = .ok (.ineg, 1) := by decide +kernel
theorem dX9_isBroken_46 : decode cX9_isBroken 46 = .ok (.if_icmp .gt 7, 3) := by decide +kernel
theorem dX9_isBroken_49 : decode cX9_isBroken 49 = .ok (.iconst 1, 1) := by decide +kernel
theorem dX9_isBroken_50 : decode cX9_isBroken 50 = .ok (.goto 4, 3) := by decide +kernel
theorem dX9_isBroken_53 : decode cX9_isBroken 53 = .ok (.iconst 0, 1) := by decide +kernel
theorem dX9_isBroken_54 : decode cX9_isBroken 54 = .ok (.istore_n 2, 1) := by decide +kernel
theorem dX9_isBroken_55 : decode cX9_isBroken 55 = .ok (.iinc 3 1, 3) := by decide +kernel
theorem dX9_isBroken_58 : decode cX9_isBroken 58 = .ok (.goto (-54), 3) := by decide +kernel
theorem dX9_isBroken_61 : decode cX9_isBroken 61 = .ok (.iload_n 2, 1) := by decide +kernel
theorem dX9_isBroken_62 : decode cX9_isBroken 62 = .ok (.ireturn, 1) := by decide +kernel
set_option maxRecDepth 20000 in
theorem ggX9_choose_X9_heapLength : GoodIn wsX9_choose wsX9_heapLength := goodIn_r _ [9, 10, 22, 23, 24, 25, 26, 27, 28, 29, 30, 31, 32, 33, 34, 35, 36, 37, 38, 39] (by decide +kernel) (by decide +kernel)
set_option maxRecDepth 20000 in
theorem gX9_choose_X9_heapLength : GoodIn wsX9_choose (wsV RX9 114 RX9 yX9_heapLength wsX9_heapLength) := goodIn_app (goodIn_of _ (by decide +kernel)) ggX9_choose_X9_heapLength
set_option maxRecDepth 20000 in
theorem ggX9_choose_X9_breadth : GoodIn wsX9_choose wsX9_breadth := goodIn_r _ [14, 10, 22, 23, 24, 25, 26, 27, 28, 29, 30, 31, 32, 33, 34, 35, 36, 37, 38, 39] (by decide +kernel) (by decide +kernel)
set_option maxRecDepth 20000 in
theorem gX9_choose_X9_breadth : GoodIn wsX9_choose (wsV RX9 108 RX9 yX9_breadth wsX9_breadth) := goodIn_app (goodIn_of _ (by decide +kernel)) ggX9_choose_X9_breadth
set_option maxRecDepth 20000 in
theorem ggX9_choose_X9_isBroken : GoodIn wsX9_choose wsX9_isBroken := goodIn_r _ [18, 19, 20, 21, 22, 23, 24, 25, 26, 27, 28, 29, 30, 31, 32, 33, 34, 35, 36, 37, 38, 39] (by decide +kernel) (by decide +kernel)
set_option maxRecDepth 20000 in
theorem gX9_choose_X9_isBroken : GoodIn wsX9_choose (wsV RX9 117 RX9 yX9_isBroken wsX9_isBroken) := goodIn_app (goodIn_of _ (by decide +kernel)) ggX9_choose_X9_isBroken
