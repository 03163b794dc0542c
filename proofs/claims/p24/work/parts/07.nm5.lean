set_option maxRecDepth 20000 in
theorem ggL_does_X4_tick : GoodIn wsL_does wsX4_tick := goodIn_r _ [206, 52, 207, 208, 209, 8, 210, 19, 20, 21, 22, 23, 24, 72, 73, 74, 75, 76, 77, 78, 35, 36, 37, 38, 25, 26, 27, 28, 29, 30, 39, 40, 41, 42, 43, 44, 45, 46, 47, 48, 49, 50, 51, 53, 54, 55, 56, 57, 58, 59, 60, 61, 62, 63, 219, 220, 221, 211, 212, 213, 214, 215, 216, 217, 218, 222, 223, 224, 225, 226, 227, 228, 229] (by decide +kernel) (by decide +kernel)
set_option maxRecDepth 20000 in
theorem gL_does_X4_tick : GoodIn wsL_does (wsV RL 38 RX4 yX4_tick wsX4_tick) := goodIn_app (goodIn_of _ (by decide +kernel)) ggL_does_X4_tick
theorem dL_does_0 : decode cL_does 0 = .ok (.iload_n 1, 1) := by decide +kernel
theorem dL_does_1 : decode cL_does 1 = .ok (.ifCond .ne 11, 3) := by decide +kernel
theorem dL_does_4 : decode cL_does 4 = .ok (.aload_n 0, 1) := by decide +kernel
theorem dL_does_5 : decode cL_does 5 = .ok (.iload_n 2, 1) := by decide +kernel
theorem dL_does_6 : decode cL_does 6 = .ok (.invokevirtual 8, 3) := by decide +kernel
theorem dL_does_9 : decode cL_does 9 = .ok (.goto 109, 3) := by decide +kernel
theorem dL_does_12 : decode cL_does 12 = .ok (.iload_n 1, 1) := by decide +kernel
theorem dL_does_13 : decode cL_does 13 = .ok (.iconst 1, 1) := by decide +kernel
theorem dL_does_14 : decode cL_does 14 = .ok (.if_icmp .ne 11, 3) := by decide +kernel
theorem dL_does_17 : decode cL_does 17 = .ok (.aload_n 0, 1) := by decide +kernel
theorem dL_does_18 : decode cL_does 18 = .ok (.iload_n 2, 1) := by decide +kernel
theorem dL_does_19 : decode cL_does 19 = .ok (.invokevirtual 14, 3) := by decide +kernel
theorem dL_does_22 : decode cL_does 22 = .ok (.goto 96, 3) := by decide +kernel
theorem dL_does_25 : decode cL_does 25 = .ok (.iload_n 1, 1) := by decide +kernel
theorem dL_does_26 : decode cL_does 26 = .ok (.iconst 2, 1) := by decide +kernel
theorem dL_does_27 : decode cL_does 27 = .ok (.if_icmp .ne 19, 3) := by decide +kernel
theorem dL_does_30 : decode cL_does 30 = .ok (.aload_n 0, 1) := by decide +kernel
theorem dL_does_31 : decode cL_does 31 = .ok (.iload_n 2, 1) := by decide +kernel
theorem dL_does_32 : decode cL_does 32 = .ok (.invokevirtual 17, 3) := by decide +kernel
theorem dL_does_35 : decode cL_does 35 = .ok (.ifCond .eq 7, 3) := by decide +kernel
theorem dL_does_38 : decode cL_does 38 = .ok (.iconst 1, 1) := by decide +kernel
theorem dL_does_39 : decode cL_does 39 = .ok (.goto 79, 3) := by decide +kernel
theorem dL_does_42 : decode cL_does 42 = .ok (.iconst 0, 1) := by decide +kernel
theorem dL_does_43 : decode cL_does 43 = .ok (.goto 75, 3) := by decide +kernel
theorem dL_does_46 : decode cL_does 46 = .ok (.iload_n 1, 1) := by decide +kernel
theorem dL_does_47 : decode cL_does 47 = .ok (.iconst 3, 1) := by decide +kernel
theorem dL_does_48 : decode cL_does 48 = .ok (.if_icmp .ne 12, 3) := by decide +kernel
theorem dL_does_51 : decode cL_does 51 = .ok (.aload_n 0, 1) := by decide +kernel
theorem dL_does_52 : decode cL_does 52 = .ok (.iload_n 2, 1) := by decide +kernel
theorem dL_does_53 : decode cL_does 53 = .ok (.iload_n 3, 1) := by decide +kernel
theorem dL_does_54 : decode cL_does 54 = .ok (.invokevirtual 21, 3) := by decide +kernel
theorem dL_does_57 : decode cL_does 57 = .ok (.goto 61, 3) := by decide +kernel
theorem dL_does_60 : decode cL_does 60 = .ok (.iload_n 1, 1) := by decide +kernel
theorem dL_does_61 : decode cL_does 61 = .ok (.iconst 4, 1) := by decide +kernel
theorem dL_does_62 : decode cL_does 62 = .ok (.if_icmp .ne 12, 3) := by decide +kernel
theorem dL_does_65 : decode cL_does 65 = .ok (.aload_n 0, 1) := by decide +kernel
theorem dL_does_66 : decode cL_does 66 = .ok (.iload_n 2, 1) := by decide +kernel
theorem dL_does_67 : decode cL_does 67 = .ok (.iload_n 3, 1) := by decide +kernel
theorem dL_does_68 : decode cL_does 68 = .ok (.invokevirtual 25, 3) := by decide +kernel
theorem dL_does_71 : decode cL_does 71 = .ok (.goto 47, 3) := by decide +kernel
theorem dL_does_74 : decode cL_does 74 = .ok (.iload_n 1, 1) := by decide +kernel
theorem dL_does_75 : decode cL_does 75 = .ok (.iconst 5, 1) := by decide +kernel
theorem dL_does_76 : decode cL_does 76 = .ok (.if_icmp .ne 11, 3) := by decide +kernel
theorem dL_does_79 : decode cL_does 79 = .ok (.aload_n 0, 1) := by decide +kernel
theorem dL_does_80 : decode cL_does 80 = .ok (.iload_n 2, 1) := by decide +kernel
theorem dL_does_81 : decode cL_does 81 = .ok (.invokevirtual 28, 3) := by decide +kernel
theorem dL_does_84 : decode cL_does 84 = .ok (.goto 34, 3) := by decide +kernel
theorem dL_does_87 : decode cL_does 87 = .ok (.iload_n 1, 1) := by decide +kernel
theorem dL_does_88 : decode cL_does 88 = .ok (.bipush 6, 2) := by decide +kernel
theorem dL_does_90 : decode cL_does 90 = .ok (.if_icmp .ne 11, 3) := by decide +kernel
theorem dL_does_93 : decode cL_does 93 = .ok (.aload_n 0, 1) := by decide +kernel
theorem dL_does_94 : decode cL_does 94 = .ok (.iload_n 2, 1) := by decide +kernel
theorem dL_does_95 : decode cL_does 95 = .ok (.invokevirtual 31, 3) := by decide +kernel
theorem dL_does_98 : decode cL_does 98 = .ok (.goto 20, 3) := by decide +kernel
theorem dL_does_101 : decode cL_does 101 = .ok (.iload_n 1, 1) := by decide +kernel
theorem dL_does_102 : decode cL_does 102 = .ok (.bipush 7, 2) := by decide +kernel
theorem dL_does_104 : decode cL_does 104 = .ok (.if_icmp .ne 10, 3) := by decide +kernel
theorem dL_does_107 : decode cL_does 107 = .ok (.aload_n 0, 1) := by decide +kernel
theorem dL_does_108 : decode cL_does 108 = .ok (.invokevirtual 34, 3) := by decide +kernel
theorem dL_does_111 : decode cL_does 111 = .ok (.goto 7, 3) := by decide +kernel
theorem dL_does_114 : decode cL_does 114 = .ok (.aload_n 0, 1) := by decide +kernel
theorem dL_does_115 : decode cL_does 115 = .ok (.invokevirtual 38, 3) := by decide +kernel
theorem dL_does_118 : decode cL_does 118 = .ok (.ireturn, 1) := by decide +kernel
theorem dL_does_119 : decode cL_does 119 = .ok (.astore 4, 2) := by decide +kernel
theorem dL_does_121 : decode cL_does 121 = .ok (.ldc 43, 2) := by decide +kernel
theorem dL_does_123 : decode cL_does 123 = .ok (.ireturn, 1) := by decide +kernel
theorem dL_does_124 : decode cL_does 124 = .ok (.astore 4, 2) := by decide +kernel
theorem dL_does_126 : decode cL_does 126 = .ok (.ldc 43, 2) := by decide +kernel
theorem dL_does_128 : decode cL_does 128 = .ok (.ireturn, 1) := by decide +kernel
theorem dL_does_129 : decode cL_does 129 = .ok (.astore 4, 2) := by decide +kernel
theorem dL_does_131 : decode cL_does 131 = .ok (.ldc 43, 2) := by decide +kernel
theorem dL_does_133 : decode cL_does 133 = .ok (.ireturn, 1) := by decide +kernel
set_option maxRecDepth 20000 in
theorem ggL_textLength_X4_textLength : GoodIn wsL_textLength wsX4_textLength := goodIn_ca (goodIn_r _ [7, 8, 9, 10, 6, 11, 12, 13, 14, 15, 16, 17, 18, 19, 20, 21, 22, 23, 24, 25, 26, 27, 28, 29, 30, 31, 32, 33, 34, 35, 36, 37, 38, 39, 40, 41, 42, 43, 44, 45, 46, 47, 48, 49, 50, 51, 52, 53, 54, 55, 56, 57, 58, 59, 60, 61, 62, 63, 64, 65, 66, 67, 68, 69, 70, 71, 72, 73, 74, 75, 76, 77, 78, 79, 80, 81, 82, 83, 84, 85, 86, 87, 88, 89, 90, 91, 92, 93, 94, 95, 96, 97, 98, 99, 100, 101, 102, 103, 104, 105, 106, 107, 108, 109, 110, 111, 112, 113, 114, 115, 116, 117, 118, 119, 120, 121, 122, 123, 124, 125, 126, 127, 128, 129, 130, 131, 132, 133, 134, 135, 136, 137, 138, 139, 140, 141, 142, 143, 144, 145, 146, 147, 148, 149, 150, 151, 152, 153, 154, 155, 156, 157, 158, 159, 160, 161, 162, 163, 164, 165, 166, 167, 168, 169, 170, 171, 172, 173, 174, 175, 176, 177, 178, 179, 180, 181, 182, 183, 184, 185, 186, 187, 188, 189, 190, 191, 192, 193, 194, 195, 196, 197, 198, 199, 200, 201, 202, 203, 204, 205, 206, 207, 208, 209, 210, 211, 212, 213, 214, 215, 216, 217, 218, 219, 220, 221, 222, 223, 224, 225, 226, 227, 228, 229, 230, 231, 232, 233, 234, 235, 236, 237, 238, 239, 240, 241, 242, 243, 244, 245, 246, 247, 248, 249, 250, 251, 252, 253, 254, 255, 256, 257, 258, 259, 260, 261, 262, 263, 264, 265, 266, 267, 268, 269, 270, 271, 272, 273, 274, 275, 276, 277, 278, 279, 280, 281] (by decide +kernel) (by decide +kernel)) (goodIn_sub (fun _ h => List.mem_cons_of_mem _ (List.mem_append_right _ h)) (by decide +kernel))
set_option maxRecDepth 20000 in
theorem gL_textLength_X4_textLength : GoodIn wsL_textLength (wsV RL 48 RX4 yX4_textLength wsX4_textLength) := goodIn_app (goodIn_of _ (by decide +kernel)) ggL_textLength_X4_textLength
theorem dL_textLength_0 : decode cL_textLength 0 = .ok (.aload_n 0, 1) := by decide +kernel
theorem dL_textLength_1 : decode cL_textLength 1 = .ok (.iload_n 1, 1) := by decide +kernel
theorem dL_textLength_2 : decode cL_textLength 2 = .ok (.iload_n 2, 1) := by decide +kernel
theorem dL_textLength_3 : decode cL_textLength 3 = .ok (.invokevirtual 48, 3) := by decide +kernel
theorem dL_textLength_6 : decode cL_textLength 6 = .ok (.ireturn, 1) := by decide +kernel
theorem dL_textLength_7 : decode cL_textLength 7 = .ok (.astore_n 3, 1) := by decide +kernel
theorem dL_textLength_8 : decode cL_textLength 8 = .ok (.ldc 43, 2) := by decide +kernel
theorem dL_textLength_10 : decode cL_textLength 10 = .ok (.ireturn, 1) := by decide +kernel
set_option maxRecDepth 20000 in
theorem ggL_handledKey_X4_handledKey : GoodIn wsL_handledKey wsX4_handledKey := goodIn_ca (goodIn_r _ [7, 8, 9, 10, 11, 12, 6, 13, 14, 15, 16, 17, 18, 19, 20, 21, 22, 23, 24, 25, 26, 27, 28, 29, 30, 31, 32, 33, 34, 35, 36, 37, 38, 39, 40, 41, 42] (by decide +kernel) (by decide +kernel)) (goodIn_sub (fun _ h => List.mem_cons_of_mem _ (List.mem_append_right _ h)) (by decide +kernel))
set_option maxRecDepth 20000 in
theorem gL_handledKey_X4_handledKey : GoodIn wsL_handledKey (wsV RL 51 RX4 yX4_handledKey wsX4_handledKey) := goodIn_app (goodIn_of _ (by decide +kernel)) ggL_handledKey_X4_handledKey
theorem dL_handledKey_0 : decode cL_handledKey 0 = .ok (.aload_n 0, 1) := by decide +kernel
theorem dL_handledKey_1 : decode cL_handledKey 1 = .ok (.iload_n 1, 1) := by decide +kernel
theorem dL_handledKey_2 : decode cL_handledKey 2 = .ok (.iload_n 2, 1) := by decide +kernel
theorem dL_handledKey_3 : decode cL_handledKey 3 = .ok (.invokevirtual 51, 3) := by decide +kernel
theorem dL_handledKey_6 : decode cL_handledKey 6 = .ok (.ireturn, 1) := by decide +kernel
theorem dL_handledKey_7 : decode cL_handledKey 7 = .ok (.astore_n 3, 1) := by decide +kernel
theorem dL_handledKey_8 : decode cL_handledKey 8 = .ok (.ldc 43, 2) := by decide +kernel
theorem dL_handledKey_10 : decode cL_handledKey 10 = .ok (.ireturn, 1) := by decide +kernel
set_option maxRecDepth 20000 in
theorem ggL_act_L_low : GoodIn wsL_act wsL_low := goodIn_r _ [4, 5] (by decide +kernel) (by decide +kernel)
set_option maxRecDepth 20000 in
theorem gL_act_L_low : GoodIn wsL_act (va_wsS RL 54 yL_low wsL_low) := goodIn_app (goodIn_of _ (by decide +kernel)) ggL_act_L_low
set_option maxRecDepth 20000 in
theorem ggL_act_L_does : GoodIn wsL_act wsL_does := goodIn_ca (goodIn_ca (goodIn_ca (goodIn_r _ [8, 9, 10, 11, 12, 13, 14, 15, 16, 17, 18, 19, 20, 21, 22, 23, 24, 25, 26, 27, 28, 29, 30, 31, 32, 33, 34, 35, 36, 37, 38, 39, 40, 41, 42, 43, 44, 45, 46, 47, 48, 49, 50, 51, 52, 53, 54, 55, 56, 57, 58, 59, 60, 61, 62, 63, 64, 65, 66, 67, 68, 69, 70, 71, 72, 73, 74, 75, 76, 77, 78, 79, 80, 81, 82, 83, 84, 85, 86, 87, 88, 89, 90, 91, 92, 93, 94, 95, 96, 97, 98, 99, 100, 101, 102, 103, 104, 105, 106, 107, 108, 109, 110, 111, 112, 113, 114, 115, 116, 117, 118, 119, 120, 121, 122, 123, 124, 125, 126, 127, 128, 129, 130, 131, 132, 133, 134, 135, 136, 137, 138, 139, 140, 141, 142, 143, 144, 145, 146, 147, 148, 149, 150, 151, 152, 153, 154, 155, 156, 157, 158, 159, 160, 161, 162, 163, 164, 165, 166, 167, 168, 169, 170, 171, 172, 173, 174, 175, 176, 177, 178, 179, 180, 181, 182, 183, 184, 185, 186, 187, 188, 189, 190, 191, 192, 193, 194, 195, 196, 197, 198, 199, 200, 201, 202, 203, 204, 205, 206, 207, 208, 209, 210, 211, 212, 213, 214, 215, 216, 217, 218, 223, 224, 225, 226, 227, 228, 229, 230, 231, 232, 233, 234, 235, 236, 237, 238, 239, 240, 241] (by decide +kernel) (by decide +kernel)) (goodIn_sub (fun _ h => List.mem_cons_of_mem _ (List.mem_append_left _ (List.mem_append_left _ (List.mem_append_right _ h)))) (by decide +kernel))) (goodIn_sub (fun _ h => List.mem_cons_of_mem _ (List.mem_append_left _ (List.mem_append_right _ h))) (by decide +kernel))) (goodIn_sub (fun _ h => List.mem_cons_of_mem _ (List.mem_append_right _ h)) (by decide +kernel))
set_option maxRecDepth 20000 in
theorem gL_act_L_does : GoodIn wsL_act (va_wsS RL 59 yL_does wsL_does) := goodIn_app (goodIn_of _ (by decide +kernel)) ggL_act_L_does
set_option maxRecDepth 20000 in
theorem ggL_act_X4_stateOf : GoodIn wsL_act wsX4_stateOf := goodIn_ca (goodIn_r _ [222, 21, 22, 23, 16, 24, 25, 26, 27, 28, 29, 30, 31, 32, 223, 224, 225, 226, 227, 228, 229, 230, 231, 232, 233] (by decide +kernel) (by decide +kernel)) (goodIn_sub (fun _ h => List.mem_cons_of_mem _ (List.mem_append_left _ (List.mem_append_right _ h))) (by decide +kernel))
set_option maxRecDepth 20000 in
theorem gL_act_X4_stateOf : GoodIn wsL_act (wsV RL 63 RX4 yX4_stateOf wsX4_stateOf) := goodIn_app (goodIn_of _ (by decide +kernel)) ggL_act_X4_stateOf
theorem dL_act_0 : decode cL_act 0 = .ok (.iload_n 1, 1) := by decide +kernel
theorem dL_act_1 : decode cL_act 1 = .ok (.bipush 24, 2) := by decide +kernel
theorem dL_act_3 : decode cL_act 3 = .ok (.ishr, 1) := by decide +kernel
theorem dL_act_4 : decode cL_act 4 = .ok (.bipush 8, 2) := by decide +kernel
theorem dL_act_6 : decode cL_act 6 = .ok (.invokestatic 54, 3) := by decide +kernel
theorem dL_act_9 : decode cL_act 9 = .ok (.ifCond .ne 7, 3) := by decide +kernel
theorem dL_act_12 : decode cL_act 12 = .ok (.iconst 1, 1) := by decide +kernel
theorem dL_act_13 : decode cL_act 13 = .ok (.goto 4, 3) := by decide +kernel
theorem dL_act_16 : decode cL_act 16 = .ok (.iconst 0, 1) := by decide +kernel
theorem dL_act_17 : decode cL_act 17 = .ok (.istore_n 2, 1) := by decide +kernel
theorem dL_act_18 : decode cL_act 18 = .ok (.iload_n 1, 1) := by decide +kernel
theorem dL_act_19 : decode cL_act 19 = .ok (.bipush 32, 2) := by decide +kernel
theorem dL_act_21 : decode cL_act 21 = .ok (.invokestatic 54, 3) := by decide +kernel
theorem dL_act_24 : decode cL_act 24 = .ok (.istore_n 3, 1) := by decide +kernel
theorem dL_act_25 : decode cL_act 25 = .ok (.iload_n 2, 1) := by decide +kernel
theorem dL_act_26 : decode cL_act 26 = .ok (.ifCond .eq 15, 3) := by decide +kernel
theorem dL_act_29 : decode cL_act 29 = .ok (.iload_n 1, 1) := by decide +kernel
theorem dL_act_30 : decode cL_act 30 = .ok (.iconst 5, 1) := by decide +kernel
theorem dL_act_31 : decode cL_act 31 = .ok (.ishr, 1) := by decide +kernel
theorem dL_act_32 : decode cL_act 32 = .ok (.iconst 4, 1) := by decide +kernel
theorem dL_act_33 : decode cL_act 33 = .ok (.invokestatic 54, 3) := by decide +kernel
theorem dL_act_36 : decode cL_act 36 = .ok (.iconst 1, 1) := by decide +kernel
theorem dL_act_37 : decode cL_act 37 = .ok (.isub, 1) := by decide +kernel
theorem dL_act_38 : decode cL_act 38 = .ok (.goto 8, 3) := by decide +kernel
theorem dL_act_41 : decode cL_act 41 = .ok (.iload_n 1, 1) := by decide +kernel
theorem dL_act_42 : decode cL_act 42 = .ok (.iconst 5, 1) := by decide +kernel
theorem dL_act_43 : decode cL_act 43 = .ok (.ishr, 1) := by decide +kernel
theorem dL_act_44 : decode cL_act 44 = .ok (.iconst 1, 1) := by decide +kernel
theorem dL_act_45 : decode cL_act 45 = .ok (.iand, 1) := by decide +kernel
theorem dL_act_46 : decode cL_act 46 = .ok (.istore 4, 2) := by decide +kernel
theorem dL_act_48 : decode cL_act 48 = .ok (.iload_n 3, 1) := by decide +kernel
theorem dL_act_49 : decode cL_act 49 = .ok (.iconst 4, 1) := by decide +kernel
theorem dL_act_50 : decode cL_act 50 = .ok (.if_icmp .ge 53, 3) := by decide +kernel
theorem dL_act_53 : decode cL_act 53 = .ok (.iload_n 1, 1) := by decide +kernel
theorem dL_act_54 : decode cL_act 54 = .ok (.bipush 6, 2) := by decide +kernel
theorem dL_act_56 : decode cL_act 56 = .ok (.ishr, 1) := by decide +kernel
theorem dL_act_57 : decode cL_act 57 = .ok (.bipush 7, 2) := by decide +kernel
theorem dL_act_59 : decode cL_act 59 = .ok (.iand, 1) := by decide +kernel
theorem dL_act_60 : decode cL_act 60 = .ok (.istore 5, 2) := by decide +kernel
theorem dL_act_62 : decode cL_act 62 = .ok (.aload_n 0, 1) := by decide +kernel
theorem dL_act_63 : decode cL_act 63 = .ok (.iload 5, 2) := by decide +kernel
theorem dL_act_65 : decode cL_act 65 = .ok (.iconst 5, 1) := by decide +kernel
theorem dL_act_66 : decode cL_act 66 = .ok (.if_icmp .ge 7, 3) := by decide +kernel
theorem dL_act_69 : decode cL_act 69 = .ok (.iconst 0, 1) := by decide +kernel
theorem dL_act_70 : decode cL_act 70 = .ok (.goto 26, 3) := by decide +kernel
theorem dL_act_73 : decode cL_act 73 = .ok (.iload 5, 2) := by decide +kernel
theorem dL_act_75 : decode cL_act 75 = .ok (.iconst 5, 1) := by decide +kernel
theorem dL_act_76 : decode cL_act 76 = .ok (.if_icmp .ne 7, 3) := by decide +kernel
theorem dL_act_79 : decode cL_act 79 = .ok (.iconst 1, 1) := by decide +kernel
theorem dL_act_80 : decode cL_act 80 = .ok (.goto 16, 3) := by decide +kernel
theorem dL_act_83 : decode cL_act 83 = .ok (.iload 5, 2) := by decide +kernel
theorem dL_act_85 : decode cL_act 85 = .ok (.bipush 6, 2) := by decide +kernel
theorem dL_act_87 : decode cL_act 87 = .ok (.if_icmp .ne 7, 3) := by decide +kernel
theorem dL_act_90 : decode cL_act 90 = .ok (.iconst 2, 1) := by decide +kernel
theorem dL_act_91 : decode cL_act 91 = .ok (.goto 5, 3) := by decide +kernel
theorem dL_act_94 : decode cL_act 94 = .ok (.bipush 7, 2) := by decide +kernel
theorem dL_act_96 : decode cL_act 96 = .ok (.iload 4, 2) := by decide +kernel
theorem dL_act_98 : decode cL_act 98 = .ok (.iconst 0, 1) := by decide +kernel
theorem dL_act_99 : decode cL_act 99 = .ok (.invokestatic 59, 3) := by decide +kernel
theorem dL_act_102 : decode cL_act 102 = .ok (.ireturn, 1) := by decide +kernel
theorem dL_act_103 : decode cL_act 103 = .ok (.iload_n 3, 1) := by decide +kernel
theorem dL_act_104 : decode cL_act 104 = .ok (.bipush 12, 2) := by decide +kernel
theorem dL_act_106 : decode cL_act 106 = .ok (.if_icmp .ge 61, 3) := by decide +kernel
theorem dL_act_109 : decode cL_act 109 = .ok (.aload_n 0, 1) := by decide +kernel
theorem dL_act_110 : decode cL_act 110 = .ok (.iload_n 3, 1) := by decide +kernel
theorem dL_act_111 : decode cL_act 111 = .ok (.bipush 10, 2) := by decide +kernel
theorem dL_act_113 : decode cL_act 113 = .ok (.if_icmp .ge 7, 3) := by decide +kernel
theorem dL_act_116 : decode cL_act 116 = .ok (.iconst 3, 1) := by decide +kernel
theorem dL_act_117 : decode cL_act 117 = .ok (.goto 4, 3) := by decide +kernel
theorem dL_act_120 : decode cL_act 120 = .ok (.iconst 4, 1) := by decide +kernel
theorem dL_act_121 : decode cL_act 121 = .ok (.iload 4, 2) := by decide +kernel
theorem dL_act_123 : decode cL_act 123 = .ok (.iload_n 2, 1) := by decide +kernel
theorem dL_act_124 : decode cL_act 124 = .ok (.ifCond .eq 19, 3) := by decide +kernel
theorem dL_act_127 : decode cL_act 127 = .ok (.iload_n 1, 1) := by decide +kernel
theorem dL_act_128 : decode cL_act 128 = .ok (.bipush 7, 2) := by decide +kernel
theorem dL_act_130 : decode cL_act 130 = .ok (.ishr, 1) := by decide +kernel
theorem dL_act_131 : decode cL_act 131 = .ok (.sipush 1100, 3) := by decide +kernel
theorem dL_act_134 : decode cL_act 134 = .ok (.invokestatic 54, 3) := by decide +kernel
theorem dL_act_137 : decode cL_act 137 = .ok (.bipush 20, 2) := by decide +kernel
theorem dL_act_139 : decode cL_act 139 = .ok (.isub, 1) := by decide +kernel
theorem dL_act_140 : decode cL_act 140 = .ok (.goto 23, 3) := by decide +kernel
theorem dL_act_143 : decode cL_act 143 = .ok (.iload_n 1, 1) := by decide +kernel
theorem dL_act_144 : decode cL_act 144 = .ok (.bipush 7, 2) := by decide +kernel
theorem dL_act_146 : decode cL_act 146 = .ok (.ishr, 1) := by decide +kernel
theorem dL_act_147 : decode cL_act 147 = .ok (.iload_n 3, 1) := by decide +kernel
theorem dL_act_148 : decode cL_act 148 = .ok (.bipush 10, 2) := by decide +kernel
theorem dL_act_150 : decode cL_act 150 = .ok (.if_icmp .ge 8, 3) := by decide +kernel
theorem dL_act_153 : decode cL_act 153 = .ok (.bipush 20, 2) := by decide +kernel
theorem dL_act_155 : decode cL_act 155 = .ok (.goto 5, 3) := by decide +kernel
theorem dL_act_158 : decode cL_act 158 = .ok (.bipush 40, 2) := by decide +kernel
theorem dL_act_160 : decode cL_act 160 = .ok (.invokestatic 54, 3) := by decide +kernel
theorem dL_act_163 : decode cL_act 163 = .ok (.invokestatic 59, 3) := by decide +kernel
theorem dL_act_166 : decode cL_act 166 = .ok (.ireturn, 1) := by decide +kernel
theorem dL_act_167 : decode cL_act 167 = .ok (.iload_n 3, 1) := by decide +kernel
theorem dL_act_168 : decode cL_act 168 = .ok (.bipush 16, 2) := by decide +kernel
theorem dL_act_170 : decode cL_act 170 = .ok (.if_icmp .ge 12, 3) := by decide +kernel
theorem dL_act_173 : decode cL_act 173 = .ok (.aload_n 0, 1) := by decide +kernel
theorem dL_act_174 : decode cL_act 174 = .ok (.bipush 8, 2) := by decide +kernel
theorem dL_act_176 : decode cL_act 176 = .ok (.iconst 0, 1) := by decide +kernel
theorem dL_act_177 : decode cL_act 177 = .ok (.iconst 0, 1) := by decide +kernel
theorem dL_act_178 : decode cL_act 178 = .ok (.invokestatic 59, 3) := by decide +kernel
theorem dL_act_181 : decode cL_act 181 = .ok (.ireturn, 1) := by decide +kernel
theorem dL_act_182 : decode cL_act 182 = .ok (.aload_n 0, 1) := by decide +kernel
theorem dL_act_183 : decode cL_act 183 = .ok (.iconst 0, 1) := by decide +kernel
theorem dL_act_184 : decode cL_act 184 = .ok (.invokevirtual 63, 3) := by decide +kernel
theorem dL_act_187 : decode cL_act 187 = .ok (.ifCond .ne 26, 3) := by decide +kernel
theorem dL_act_190 : decode cL_act 190 = .ok (.aload_n 0, 1) := by decide +kernel
theorem dL_act_191 : decode cL_act 191 = .ok (.iconst 1, 1) := by decide +kernel
theorem dL_act_192 : decode cL_act 192 = .ok (.invokevirtual 63, 3) := by decide +kernel
theorem dL_act_195 : decode cL_act 195 = .ok (.ifCond .ne 18, 3) := by decide +kernel
theorem dL_act_198 : decode cL_act 198 = .ok (.iload_n 3, 1) := by decide +kernel
theorem dL_act_199 : decode cL_act 199 = .ok (.bipush 20, 2) := by decide +kernel
theorem dL_act_201 : decode cL_act 201 = .ok (.if_icmp .ge 12, 3) := by decide +kernel
theorem dL_act_204 : decode cL_act 204 = .ok (.aload_n 0, 1) := by decide +kernel
theorem dL_act_205 : decode cL_act 205 = .ok (.iconst 0, 1) := by decide +kernel
theorem dL_act_206 : decode cL_act 206 = .ok (.iload 4, 2) := by decide +kernel
theorem dL_act_208 : decode cL_act 208 = .ok (.iconst 0, 1) := by decide +kernel
theorem dL_act_209 : decode cL_act 209 = .ok (.invokestatic 59, 3) := by decide +kernel
theorem dL_act_212 : decode cL_act 212 = .ok (.ireturn, 1) := by decide +kernel
theorem dL_act_213 : decode cL_act 213 = .ok (.aload_n 0, 1) := by decide +kernel
theorem dL_act_214 : decode cL_act 214 = .ok (.iload_n 3, 1) := by decide +kernel
theorem dL_act_215 : decode cL_act 215 = .ok (.bipush 30, 2) := by decide +kernel
theorem dL_act_217 : decode cL_act 217 = .ok (.if_icmp .ge 7, 3) := by decide +kernel
theorem dL_act_220 : decode cL_act 220 = .ok (.iconst 5, 1) := by decide +kernel
theorem dL_act_221 : decode cL_act 221 = .ok (.goto 5, 3) := by decide +kernel
theorem dL_act_224 : decode cL_act 224 = .ok (.bipush 6, 2) := by decide +kernel
theorem dL_act_226 : decode cL_act 226 = .ok (.iload 4, 2) := by decide +kernel
theorem dL_act_228 : decode cL_act 228 = .ok (.iconst 0, 1) := by decide +kernel
theorem dL_act_229 : decode cL_act 229 = .ok (.invokestatic 59, 3) := by decide +kernel
theorem dL_act_232 : decode cL_act 232 = .ok (.ireturn, 1) := by decide +kernel
set_option maxRecDepth 20000 in
theorem ggL_areAlike_X4_stateOf : GoodIn wsL_areAlike wsX4_stateOf := goodIn_ca (goodIn_r _ [5, 6, 7, 8, 4, 9, 10, 11, 12, 13, 14, 15, 16, 17, 343, 344, 345, 346, 347, 348, 349, 350, 351, 352, 353] (by decide +kernel) (by decide +kernel)) (goodIn_sub (fun _ h => List.mem_cons_of_mem _ (List.mem_append_right _ h)) (by decide +kernel))
set_option maxRecDepth 20000 in
theorem gL_areAlike_X4_stateOf : GoodIn wsL_areAlike (wsV RL 63 RX4 yX4_stateOf wsX4_stateOf) := goodIn_app (goodIn_of _ (by decide +kernel)) ggL_areAlike_X4_stateOf
set_option maxRecDepth 20000 in
theorem ggL_areAlike_X4_next : GoodIn wsL_areAlike wsX4_next := goodIn_ca (goodIn_r _ [21, 6, 7, 8, 4, 9, 10, 11, 12, 13, 14, 15, 16, 17, 343, 344, 345, 346, 347, 348, 349, 350, 354, 355, 356, 357, 358, 359, 351, 352, 353] (by decide +kernel) (by decide +kernel)) (goodIn_sub (fun _ h => List.mem_cons_of_mem _ (List.mem_append_right _ h)) (by decide +kernel))
set_option maxRecDepth 20000 in
theorem gL_areAlike_X4_next : GoodIn wsL_areAlike (wsV RL 66 RX4 yX4_next wsX4_next) := goodIn_app (goodIn_of _ (by decide +kernel)) ggL_areAlike_X4_next
set_option maxRecDepth 20000 in
theorem ggL_areAlike_X4_expected : GoodIn wsL_areAlike wsX4_expected := goodIn_ca (goodIn_r _ [25, 6, 7, 8, 4, 9, 10, 11, 12, 13, 14, 15, 16, 17, 343, 344, 345, 346, 347, 348, 349, 350, 354, 355, 356, 357, 358, 359, 351, 352, 353] (by decide +kernel) (by decide +kernel)) (goodIn_sub (fun _ h => List.mem_cons_of_mem _ (List.mem_append_right _ h)) (by decide +kernel))
set_option maxRecDepth 20000 in
theorem gL_areAlike_X4_expected : GoodIn wsL_areAlike (wsV RL 69 RX4 yX4_expected wsX4_expected) := goodIn_app (goodIn_of _ (by decide +kernel)) ggL_areAlike_X4_expected
set_option maxRecDepth 20000 in
theorem ggL_areAlike_X4_isAsking : GoodIn wsL_areAlike wsX4_isAsking := goodIn_ca (goodIn_r _ [29, 6, 7, 8, 4, 9, 10, 11, 12, 13, 14, 15, 16, 17, 343, 344, 345, 346, 347, 348, 349, 350, 351, 352, 353] (by decide +kernel) (by decide +kernel)) (goodIn_sub (fun _ h => List.mem_cons_of_mem _ (List.mem_append_right _ h)) (by decide +kernel))
set_option maxRecDepth 20000 in
theorem gL_areAlike_X4_isAsking : GoodIn wsL_areAlike (wsV RL 72 RX4 yX4_isAsking wsX4_isAsking) := goodIn_app (goodIn_of _ (by decide +kernel)) ggL_areAlike_X4_isAsking
set_option maxRecDepth 20000 in
theorem ggL_areAlike_X4_wire : GoodIn wsL_areAlike wsX4_wire := goodIn_ca (goodIn_r _ [33, 6, 7, 8, 4, 9, 10, 11, 12, 13, 14, 15, 16, 17, 343, 344, 345, 346, 347, 348, 349, 350, 360, 361, 351, 352, 353] (by decide +kernel) (by decide +kernel)) (goodIn_sub (fun _ h => List.mem_cons_of_mem _ (List.mem_append_right _ h)) (by decide +kernel))
set_option maxRecDepth 20000 in
theorem gL_areAlike_X4_wire : GoodIn wsL_areAlike (wsV RL 75 RX4 yX4_wire wsX4_wire) := goodIn_app (goodIn_of _ (by decide +kernel)) ggL_areAlike_X4_wire
set_option maxRecDepth 20000 in
theorem ggL_areAlike_X4_handled : GoodIn wsL_areAlike wsX4_handled := goodIn_ca (goodIn_r _ [37, 6, 7, 8, 4, 9, 10, 11, 12, 13, 14, 15, 16, 17, 343, 344, 345, 346, 347, 348, 349, 350, 354, 355, 356, 357, 358, 359, 351, 352, 353] (by decide +kernel) (by decide +kernel)) (goodIn_sub (fun _ h => List.mem_cons_of_mem _ (List.mem_append_right _ h)) (by decide +kernel))
set_option maxRecDepth 20000 in
theorem gL_areAlike_X4_handled : GoodIn wsL_areAlike (wsV RL 78 RX4 yX4_handled wsX4_handled) := goodIn_app (goodIn_of _ (by decide +kernel)) ggL_areAlike_X4_handled
set_option maxRecDepth 20000 in
theorem ggL_areAlike_X4_doubles : GoodIn wsL_areAlike wsX4_doubles := goodIn_ca (goodIn_r _ [41, 6, 7, 8, 4, 9, 10, 11, 12, 13, 14, 15, 16, 17, 343, 344, 345, 346, 347, 348, 349, 350, 354, 355, 356, 357, 358, 359, 351, 352, 353] (by decide +kernel) (by decide +kernel)) (goodIn_sub (fun _ h => List.mem_cons_of_mem _ (List.mem_append_right _ h)) (by decide +kernel))
set_option maxRecDepth 20000 in
theorem gL_areAlike_X4_doubles : GoodIn wsL_areAlike (wsV RL 81 RX4 yX4_doubles wsX4_doubles) := goodIn_app (goodIn_of _ (by decide +kernel)) ggL_areAlike_X4_doubles
set_option maxRecDepth 20000 in
theorem ggL_areAlike_X4_agreed : GoodIn wsL_areAlike wsX4_agreed := goodIn_ca (goodIn_r _ [45, 46, 47, 48, 49, 6, 7, 8, 4, 9, 10, 11, 12, 13, 14, 15, 16, 17, 50, 51, 52, 53, 54, 55, 56, 57, 58, 59, 60, 61, 62, 63, 64, 65, 66, 67, 68, 69, 70, 71, 72, 73, 74, 75, 76, 77, 78, 79, 80, 81, 82, 83, 84, 85, 86, 87, 88, 89, 90, 343, 344, 345, 346, 347, 348, 349, 350, 354, 355, 356, 357, 358, 359, 351, 352, 353] (by decide +kernel) (by decide +kernel)) (goodIn_sub (fun _ h => List.mem_cons_of_mem _ (List.mem_append_right _ h)) (by decide +kernel))
set_option maxRecDepth 20000 in
theorem gL_areAlike_X4_agreed : GoodIn wsL_areAlike (wsV RL 84 RX4 yX4_agreed wsX4_agreed) := goodIn_app (goodIn_of _ (by decide +kernel)) ggL_areAlike_X4_agreed
set_option maxRecDepth 20000 in
theorem ggL_areAlike_L_textLength : GoodIn wsL_areAlike wsL_textLength := goodIn_ca (goodIn_r _ [94, 95, 96, 97, 98, 99, 4, 100, 101, 102, 103, 104, 10, 11, 6, 7, 8, 9, 12, 13, 14, 15, 16, 17, 105, 106, 107, 108, 109, 110, 111, 112, 72, 113, 114, 115, 116, 117, 118, 119, 71, 73, 120, 121, 122, 123, 124, 125, 126, 127, 128, 129, 130, 131, 132, 133, 134, 135, 136, 137, 138, 139, 140, 141, 142, 143, 144, 145, 146, 147, 148, 149, 150, 151, 152, 153, 154, 155, 156, 157, 158, 159, 160, 161, 162, 163, 164, 165, 166, 167, 168, 169, 170, 171, 172, 173, 174, 175, 48, 176, 177, 178, 179, 180, 181, 182, 183, 184, 185, 186, 187, 188, 189, 190, 191, 47, 49, 192, 193, 194, 195, 196, 197, 198, 199, 200, 201, 202, 203, 204, 205, 206, 207, 208, 209, 210, 211, 212, 213, 214, 215, 216, 217, 218, 219, 220, 221, 222, 223, 224, 225, 226, 227, 228, 229, 230, 231, 232, 233, 234, 235, 236, 237, 238, 239, 240, 241, 242, 243, 244, 245, 246, 247, 248, 249, 250, 251, 252, 253, 254, 255, 256, 257, 258, 259, 260, 261, 262, 263, 264, 265, 266, 267, 268, 269, 270, 271, 272, 273, 274, 275, 276, 277, 278, 279, 280, 281, 282, 283, 284, 285, 286, 287, 288, 289, 290, 291, 292, 293, 294, 295, 296, 297, 298, 299, 300, 301, 302, 303, 304, 305, 306, 307, 308, 309, 310, 311, 312, 313, 314, 315, 316, 317, 318, 319, 320, 321, 322, 323, 324, 325, 326, 78, 79, 327, 75, 76, 328, 329, 330, 331, 332, 333, 334, 335, 343, 344, 345, 346, 347, 348, 349, 350, 360, 361, 351, 352, 353, 362, 363, 364, 365] (by decide +kernel) (by decide +kernel)) (goodIn_sub (fun _ h => List.mem_cons_of_mem _ (List.mem_append_right _ h)) (by decide +kernel))
set_option maxRecDepth 20000 in
theorem gL_areAlike_L_textLength : GoodIn wsL_areAlike (va_wsS RL 87 yL_textLength wsL_textLength) := goodIn_app (goodIn_of _ (by decide +kernel)) ggL_areAlike_L_textLength
set_option maxRecDepth 20000 in
theorem ggL_areAlike_L_handledKey : GoodIn wsL_areAlike wsL_handledKey := goodIn_ca (goodIn_r _ [338, 95, 96, 339, 340, 341, 4, 342, 10, 11, 6, 7, 8, 9, 12, 13, 14, 15, 16, 17, 84, 85, 86, 57, 87, 88, 343, 344, 345, 346, 347, 348, 349, 350, 354, 355, 356, 357, 358, 359, 351, 352, 353] (by decide +kernel) (by decide +kernel)) (goodIn_sub (fun _ h => List.mem_cons_of_mem _ (List.mem_append_right _ h)) (by decide +kernel))
set_option maxRecDepth 20000 in
theorem gL_areAlike_L_handledKey : GoodIn wsL_areAlike (va_wsS RL 90 yL_handledKey wsL_handledKey) := goodIn_app (goodIn_of _ (by decide +kernel)) ggL_areAlike_L_handledKey
theorem dL_areAlike_0 : decode cL_areAlike 0 = .ok (.iconst 1, 1) := by decide +kernel
theorem dL_areAlike_1 : decode cL_areAlike 1 = .ok (.istore_n 2, 1) := by decide +kernel
theorem dL_areAlike_2 : decode cL_areAlike 2 = .ok (.iconst 0, 1) := by decide +kernel
theorem dL_areAlike_3 : decode cL_areAlike 3 = .ok (.istore_n 3, 1) := by decide +kernel
theorem dL_areAlike_4 : decode cL_areAlike 4 = .ok (.iload_n 3, 1) := by decide +kernel
theorem dL_areAlike_5 : decode cL_areAlike 5 = .ok (.iconst 2, 1) := by decide +kernel
theorem dL_areAlike_6 : decode cL_areAlike 6 = .ok (.if_icmp .ge 182, 3) := by decide +kernel
theorem dL_areAlike_9 : decode cL_areAlike 9 = .ok (.iload_n 2, 1) := by decide +kernel
theorem dL_areAlike_10 : decode cL_areAlike 10 = .ok (.ifCond .eq 178, 3) := by decide +kernel
theorem dL_areAlike_13 : decode cL_areAlike 13 = .ok (.aload_n 0, 1) := by decide +kernel
theorem dL_areAlike_14 : decode cL_areAlike 14 = .ok (.iload_n 3, 1) := by decide +kernel
theorem dL_areAlike_15 : decode cL_areAlike 15 = .ok (.invokevirtual 63, 3) := by decide +kernel
theorem dL_areAlike_18 : decode cL_areAlike 18 = .ok (.aload_n 1, 1) := by decide +kernel
theorem dL_areAlike_19 : decode cL_areAlike 19 = .ok (.iload_n 3, 1) := by decide +kernel
theorem dL_areAlike_20 : decode cL_areAlike 20 = .ok (.invokevirtual 63, 3) := by decide +kernel
theorem dL_areAlike_23 : decode cL_areAlike 23 = .ok (.if_icmp .ne 98, 3) := by decide +kernel
theorem dL_areAlike_26 : decode cL_areAlike 26 = .ok (.aload_n 0, 1) := by decide +kernel
theorem dL_areAlike_27 : decode cL_areAlike 27 = .ok (.iload_n 3, 1) := by decide +kernel
theorem dL_areAlike_28 : decode cL_areAlike 28 = .ok (.invokevirtual 66, 3) := by decide +kernel
theorem dL_areAlike_31 : decode cL_areAlike 31 = .ok (.aload_n 1, 1) := by decide +kernel
theorem dL_areAlike_32 : decode cL_areAlike 32 = .ok (.iload_n 3, 1) := by decide +kernel
theorem dL_areAlike_33 : decode cL_areAlike 33 = .ok (.invokevirtual 66, 3) := by decide +kernel
theorem dL_areAlike_36 : decode cL_areAlike 36 = .ok (.if_icmp .ne 85, 3) := by decide +kernel
theorem dL_areAlike_39 : decode cL_areAlike 39 = .ok (.aload_n 0, 1) := by decide +kernel
theorem dL_areAlike_40 : decode cL_areAlike 40 = .ok (.iload_n 3, 1) := by decide +kernel
theorem dL_areAlike_41 : decode cL_areAlike 41 = .ok (.invokevirtual 69, 3) := by decide +kernel
theorem dL_areAlike_44 : decode cL_areAlike 44 = .ok (.aload_n 1, 1) := by decide +kernel
theorem dL_areAlike_45 : decode cL_areAlike 45 = .ok (.iload_n 3, 1) := by decide +kernel
theorem dL_areAlike_46 : decode cL_areAlike 46 = .ok (.invokevirtual 69, 3) := by decide +kernel
theorem dL_areAlike_49 : decode cL_areAlike 49 = .ok (.if_icmp .ne 72, 3) := by decide +kernel
theorem dL_areAlike_52 : decode cL_areAlike 52 = .ok (.aload_n 0, 1) := by decide +kernel
theorem dL_areAlike_53 : decode cL_areAlike 53 = .ok (.iload_n 3, 1) := by decide +kernel
theorem dL_areAlike_54 : decode cL_areAlike 54 = .ok (.invokevirtual 72, 3) := by decide +kernel
theorem dL_areAlike_57 : decode cL_areAlike 57 = .ok (.aload_n 1, 1) := by decide +kernel
theorem dL_areAlike_58 : decode cL_areAlike 58 = .ok (.iload_n 3, 1) := by decide +kernel
theorem dL_areAlike_59 : decode cL_areAlike 59 = .ok (.invokevirtual 72, 3) := by decide +kernel
theorem dL_areAlike_62 : decode cL_areAlike 62 = .ok (.if_icmp .ne 59, 3) := by decide +kernel
theorem dL_areAlike_65 : decode cL_areAlike 65 = .ok (.aload_n 0, 1) := by decide +kernel
theorem dL_areAlike_66 : decode cL_areAlike 66 = .ok (.iload_n 3, 1) := by decide +kernel
theorem dL_areAlike_67 : decode cL_areAlike 67 = .ok (.invokevirtual 75, 3) := by decide +kernel
theorem dL_areAlike_70 : decode cL_areAlike 70 = .ok (.aload_n 1, 1) := by decide +kernel
theorem dL_areAlike_71 : decode cL_areAlike 71 = .ok (.iload_n 3, 1) := by decide +kernel
theorem dL_areAlike_72 : decode cL_areAlike 72 = .ok (.invokevirtual 75, 3) := by decide +kernel
theorem dL_areAlike_75 : decode cL_areAlike 75 = .ok (.if_icmp .ne 46, 3) := by decide +kernel
theorem dL_areAlike_78 : decode cL_areAlike 78 = .ok (.aload_n 0, 1) := by decide +kernel
theorem dL_areAlike_79 : decode cL_areAlike 79 = .ok (.iload_n 3, 1) := by decide +kernel
theorem dL_areAlike_80 : decode cL_areAlike 80 = .ok (.invokevirtual 78, 3) := by decide +kernel
theorem dL_areAlike_83 : decode cL_areAlike 83 = .ok (.aload_n 1, 1) := by decide +kernel
theorem dL_areAlike_84 : decode cL_areAlike 84 = .ok (.iload_n 3, 1) := by decide +kernel
theorem dL_areAlike_85 : decode cL_areAlike 85 = .ok (.invokevirtual 78, 3) := by decide +kernel
theorem dL_areAlike_88 : decode cL_areAlike 88 = .ok (.if_icmp .ne 33, 3) := by decide +kernel
theorem dL_areAlike_91 : decode cL_areAlike 91 = .ok (.aload_n 0, 1) := by decide +kernel
theorem dL_areAlike_92 : decode cL_areAlike 92 = .ok (.iload_n 3, 1) := by decide +kernel
theorem dL_areAlike_93 : decode cL_areAlike 93 = .ok (.invokevirtual 81, 3) := by decide +kernel
theorem dL_areAlike_96 : decode cL_areAlike 96 = .ok (.aload_n 1, 1) := by decide +kernel
theorem dL_areAlike_97 : decode cL_areAlike 97 = .ok (.iload_n 3, 1) := by decide +kernel
theorem dL_areAlike_98 : decode cL_areAlike 98 = .ok (.invokevirtual 81, 3) := by decide +kernel
theorem dL_areAlike_101 : decode cL_areAlike 101 = .ok (.if_icmp .ne 20, 3) := by decide +kernel
theorem dL_areAlike_104 : decode cL_areAlike 104 = .ok (.aload_n 0, 1) := by decide +kernel
theorem dL_areAlike_105 : decode cL_areAlike 105 = .ok (.iload_n 3, 1) := by decide +kernel
theorem dL_areAlike_106 : decode cL_areAlike 106 = .ok (.invokevirtual 84, 3) := by decide +kernel
theorem dL_areAlike_109 : decode cL_areAlike 109 = .ok (.aload_n 1, 1) := by decide +kernel
theorem dL_areAlike_110 : decode cL_areAlike 110 = .ok (.iload_n 3, 1) := by decide +kernel
theorem dL_areAlike_111 : decode cL_areAlike 111 = .ok (.invokevirtual 84, 3) := by decide +kernel
theorem dL_areAlike_114 : decode cL_areAlike 114 = .ok (.if_icmp .ne 7, 3) := by decide +kernel
theorem dL_areAlike_117 : decode cL_areAlike 117 = .ok (.iconst 1, 1) := by decide +kernel
theorem dL_areAlike_118 : decode cL_areAlike 118 = .ok (.goto 4, 3) := by decide +kernel
theorem dL_areAlike_121 : decode cL_areAlike 121 = .ok (.iconst 0, 1) := by decide +kernel
theorem dL_areAlike_122 : decode cL_areAlike 122 = .ok (.istore_n 2, 1) := by decide +kernel
theorem dL_areAlike_123 : decode cL_areAlike 123 = .ok (.iconst 0, 1) := by decide +kernel
theorem dL_areAlike_124 : decode cL_areAlike 124 = .ok (.istore 4, 2) := by decide +kernel
theorem dL_areAlike_126 : decode cL_areAlike 126 = .ok (.iload 4, 2) := by decide +kernel
theorem dL_areAlike_128 : decode cL_areAlike 128 = .ok (.iconst 5, 1) := by decide +kernel
theorem dL_areAlike_129 : decode cL_areAlike 129 = .ok (.if_icmp .ge 53, 3) := by decide +kernel
theorem dL_areAlike_132 : decode cL_areAlike 132 = .ok (.iload_n 2, 1) := by decide +kernel
theorem dL_areAlike_133 : decode cL_areAlike 133 = .ok (.ifCond .eq 49, 3) := by decide +kernel
theorem dL_areAlike_136 : decode cL_areAlike 136 = .ok (.aload_n 0, 1) := by decide +kernel
theorem dL_areAlike_137 : decode cL_areAlike 137 = .ok (.iload_n 3, 1) := by decide +kernel
theorem dL_areAlike_138 : decode cL_areAlike 138 = .ok (.iload 4, 2) := by decide +kernel
theorem dL_areAlike_140 : decode cL_areAlike 140 = .ok (.invokestatic 87, 3) := by decide +kernel
theorem dL_areAlike_143 : decode cL_areAlike 143 = .ok (.aload_n 1, 1) := by decide +kernel
theorem dL_areAlike_144 : decode cL_areAlike 144 = .ok (.iload_n 3, 1) := by decide +kernel
theorem dL_areAlike_145 : decode cL_areAlike 145 = .ok (.iload 4, 2) := by decide +kernel
theorem dL_areAlike_147 : decode cL_areAlike 147 = .ok (.invokestatic 87, 3) := by decide +kernel
theorem dL_areAlike_150 : decode cL_areAlike 150 = .ok (.if_icmp .ne 24, 3) := by decide +kernel
theorem dL_areAlike_153 : decode cL_areAlike 153 = .ok (.aload_n 0, 1) := by decide +kernel
theorem dL_areAlike_154 : decode cL_areAlike 154 = .ok (.iload_n 3, 1) := by decide +kernel
theorem dL_areAlike_155 : decode cL_areAlike 155 = .ok (.iload 4, 2) := by decide +kernel
theorem dL_areAlike_157 : decode cL_areAlike 157 = .ok (.invokestatic 90, 3) := by decide +kernel
theorem dL_areAlike_160 : decode cL_areAlike 160 = .ok (.aload_n 1, 1) := by decide +kernel
theorem dL_areAlike_161 : decode cL_areAlike 161 = .ok (.iload_n 3, 1) := by decide +kernel
theorem dL_areAlike_162 : decode cL_areAlike 162 = .ok (.iload 4, 2) := by decide +kernel
theorem dL_areAlike_164 : decode cL_areAlike 164 = .ok (.invokestatic 90, 3) := by decide +kernel
theorem dL_areAlike_167 : decode cL_areAlike 167 = .ok (.if_icmp .ne 7, 3) := by decide +kernel
theorem dL_areAlike_170 : decode cL_areAlike 170 = .ok (.iconst 1, 1) := by decide +kernel
theorem dL_areAlike_171 : decode cL_areAlike 171 = .ok (.goto 4, 3) := by decide +kernel
theorem dL_areAlike_174 : decode cL_areAlike 174 = .ok (.iconst 0, 1) := by decide +kernel
theorem dL_areAlike_175 : decode cL_areAlike 175 = .ok (.istore_n 2, 1) := by decide +kernel
theorem dL_areAlike_176 : decode cL_areAlike 176 = .ok (.iinc 4 1, 3) := by decide +kernel
theorem dL_areAlike_179 : decode cL_areAlike 179 = .ok (.goto (-53), 3) := by decide +kernel
theorem dL_areAlike_182 : decode cL_areAlike 182 = .ok (.iinc 3 1, 3) := by decide +kernel
theorem dL_areAlike_185 : decode cL_areAlike 185 = .ok (.goto (-181), 3) := by decide +kernel
theorem dL_areAlike_188 : decode cL_areAlike 188 = .ok (.iload_n 2, 1) := by decide +kernel
theorem dL_areAlike_189 : decode cL_areAlike 189 = .ok (.ireturn, 1) := by decide +kernel
theorem dL_isDigit_0 : decode cL_isDigit 0 = .ok (.iload_n 0, 1) := by decide +kernel
theorem dL_isDigit_1 : decode cL_isDigit 1 = .ok (.bipush 48, 2) := by decide +kernel
theorem dL_isDigit_3 : decode cL_isDigit 3 = .ok (.if_icmp .lt 13, 3) := by decide +kernel
theorem dL_isDigit_6 : decode cL_isDigit 6 = .ok (.iload_n 0, 1) := by decide +kernel
theorem dL_isDigit_7 : decode cL_isDigit 7 = .ok (.bipush 57, 2) := by decide +kernel
theorem dL_isDigit_9 : decode cL_isDigit 9 = .ok (.if_icmp .gt 7, 3) := by decide +kernel
theorem dL_isDigit_12 : decode cL_isDigit 12 = .ok (.iconst 1, 1) := by decide +kernel
theorem dL_isDigit_13 : decode cL_isDigit 13 = .ok (.goto 4, 3) := by decide +kernel
theorem dL_isDigit_16 : decode cL_isDigit 16 = .ok (.iconst 0, 1) := by decide +kernel
theorem dL_isDigit_17 : decode cL_isDigit 17 = .ok (.ireturn, 1) := by decide +kernel
set_option maxRecDepth 20000 in
theorem ggL_areTextsSo_X4_wire : GoodIn wsL_areTextsSo wsX4_wire := goodIn_ca (goodIn_r _ [6, 7, 8, 9, 5, 10, 11, 12, 13, 14, 15, 16, 17, 18, 302, 303, 304, 305, 306, 307, 308, 309, 310, 311, 312, 313, 314] (by decide +kernel) (by decide +kernel)) (goodIn_sub (fun _ h => List.mem_cons_of_mem _ (List.mem_append_right _ h)) (by decide +kernel))
set_option maxRecDepth 20000 in
theorem gL_areTextsSo_X4_wire : GoodIn wsL_areTextsSo (wsV RL 75 RX4 yX4_wire wsX4_wire) := goodIn_app (goodIn_of _ (by decide +kernel)) ggL_areTextsSo_X4_wire
set_option maxRecDepth 20000 in
theorem ggL_areTextsSo_L_textLength : GoodIn wsL_areTextsSo wsL_textLength := goodIn_ca (goodIn_r _ [22, 23, 1, 24, 25, 26, 5, 27, 28, 29, 30, 31, 11, 12, 7, 8, 9, 10, 13, 14, 15, 16, 17, 18, 32, 33, 34, 35, 36, 37, 38, 39, 40, 41, 42, 43, 44, 45, 46, 47, 48, 49, 50, 51, 52, 53, 54, 55, 56, 57, 58, 59, 60, 61, 62, 63, 64, 65, 66, 67, 68, 69, 70, 71, 72, 73, 74, 75, 76, 77, 78, 79, 80, 81, 82, 83, 84, 85, 86, 87, 88, 89, 90, 91, 92, 93, 94, 95, 96, 97, 98, 99, 100, 101, 102, 103, 104, 105, 106, 107, 108, 109, 110, 111, 112, 113, 114, 115, 116, 117, 118, 119, 120, 121, 122, 123, 124, 125, 126, 127, 128, 129, 130, 131, 132, 133, 134, 135, 136, 137, 138, 139, 140, 141, 142, 143, 144, 145, 146, 147, 148, 149, 150, 151, 152, 153, 154, 155, 156, 157, 158, 159, 160, 161, 162, 163, 164, 165, 166, 167, 168, 169, 170, 171, 172, 173, 174, 175, 176, 177, 178, 179, 180, 181, 182, 183, 184, 185, 186, 187, 188, 189, 190, 191, 192, 193, 194, 195, 196, 197, 198, 199, 200, 201, 202, 203, 204, 205, 206, 207, 208, 209, 210, 211, 212, 213, 214, 215, 216, 217, 218, 219, 220, 221, 222, 223, 224, 225, 226, 227, 228, 229, 230, 231, 232, 233, 234, 235, 236, 237, 238, 239, 240, 241, 242, 243, 244, 245, 246, 247, 248, 249, 250, 251, 252, 253, 254, 255, 256, 257, 258, 259, 260, 261, 262, 263, 264, 265, 266, 267, 268, 269, 270, 271, 272, 302, 303, 304, 305, 306, 307, 308, 309, 310, 311, 312, 313, 314, 315, 316, 317, 318] (by decide +kernel) (by decide +kernel)) (goodIn_sub (fun _ h => List.mem_cons_of_mem _ (List.mem_append_right _ h)) (by decide +kernel))
set_option maxRecDepth 20000 in
theorem gL_areTextsSo_L_textLength : GoodIn wsL_areTextsSo (va_wsS RL 87 yL_textLength wsL_textLength) := goodIn_app (goodIn_of _ (by decide +kernel)) ggL_areTextsSo_L_textLength
set_option maxRecDepth 20000 in
theorem ggL_areTextsSo_X4_textLength : GoodIn wsL_areTextsSo wsX4_textLength := goodIn_ca (goodIn_r _ [27, 28, 29, 30, 5, 31, 11, 12, 7, 8, 9, 10, 13, 14, 15, 16, 17, 18, 32, 33, 34, 35, 36, 37, 38, 39, 40, 41, 42, 43, 44, 45, 46, 47, 48, 49, 50, 51, 52, 53, 54, 55, 56, 57, 58, 59, 60, 61, 62, 63, 64, 65, 66, 67, 68, 69, 70, 71, 72, 73, 74, 75, 76, 77, 78, 79, 80, 81, 82, 83, 84, 85, 86, 87, 88, 89, 90, 91, 92, 93, 94, 95, 96, 97, 98, 99, 100, 101, 102, 103, 104, 105, 106, 107, 108, 109, 110, 111, 112, 113, 114, 115, 116, 117, 118, 119, 120, 121, 122, 123, 124, 125, 126, 127, 128, 129, 130, 131, 132, 133, 134, 135, 136, 137, 138, 139, 140, 141, 142, 143, 144, 145, 146, 147, 148, 149, 150, 151, 152, 153, 154, 155, 156, 157, 158, 159, 160, 161, 162, 163, 164, 165, 166, 167, 168, 169, 170, 171, 172, 173, 174, 175, 176, 177, 178, 179, 180, 181, 182, 183, 184, 185, 186, 187, 188, 189, 190, 191, 192, 193, 194, 195, 196, 197, 198, 199, 200, 201, 202, 203, 204, 205, 206, 207, 208, 209, 210, 211, 212, 213, 214, 215, 216, 217, 218, 219, 220, 221, 222, 223, 224, 225, 226, 227, 228, 229, 230, 231, 232, 233, 234, 235, 236, 237, 238, 239, 240, 241, 242, 243, 244, 245, 246, 247, 248, 249, 250, 251, 252, 253, 254, 255, 256, 257, 258, 259, 260, 261, 262, 263, 264, 265, 266, 267, 268, 269, 270, 271, 272, 302, 303, 304, 305, 306, 307, 308, 309, 310, 311, 312, 313, 314, 315, 316, 317, 318] (by decide +kernel) (by decide +kernel)) (goodIn_sub (fun _ h => List.mem_cons_of_mem _ (List.mem_append_right _ h)) (by decide +kernel))
set_option maxRecDepth 20000 in
theorem gL_areTextsSo_X4_textLength : GoodIn wsL_areTextsSo (wsV RL 48 RX4 yX4_textLength wsX4_textLength) := goodIn_app (goodIn_of _ (by decide +kernel)) ggL_areTextsSo_X4_textLength
set_option maxRecDepth 20000 in
theorem ggL_areTextsSo_X4_textChar : GoodIn wsL_areTextsSo wsX4_textChar := goodIn_ca (goodIn_r _ [276, 11, 12, 28, 29, 30, 5, 31, 7, 8, 9, 10, 13, 14, 15, 16, 17, 18, 32, 33, 34, 35, 36, 37, 38, 39, 40, 41, 42, 43, 44, 45, 46, 47, 48, 49, 50, 51, 52, 53, 54, 55, 56, 57, 58, 59, 60, 61, 62, 63, 64, 65, 66, 67, 68, 69, 70, 71, 72, 73, 74, 75, 76, 77, 78, 79, 80, 81, 82, 83, 84, 85, 86, 87, 88, 89, 90, 91, 92, 93, 94, 95, 96, 97, 98, 99, 100, 101, 102, 103, 104, 105, 106, 107, 108, 109, 110, 111, 112, 113, 114, 115, 116, 117, 118, 119, 120, 121, 122, 123, 124, 125, 126, 127, 128, 129, 130, 131, 132, 133, 134, 135, 136, 137, 138, 139, 140, 141, 142, 143, 144, 145, 146, 147, 148, 149, 150, 151, 152, 153, 154, 155, 156, 157, 158, 159, 160, 161, 162, 163, 164, 165, 166, 167, 168, 169, 170, 171, 172, 173, 174, 175, 176, 177, 178, 179, 180, 181, 182, 183, 184, 185, 186, 187, 188, 189, 190, 191, 192, 193, 194, 195, 196, 197, 198, 199, 200, 201, 202, 203, 204, 205, 206, 207, 208, 209, 210, 211, 212, 213, 214, 215, 216, 217, 218, 219, 220, 221, 222, 223, 224, 225, 226, 227, 228, 229, 230, 231, 232, 233, 234, 235, 236, 237, 238, 239, 240, 241, 242, 243, 244, 245, 246, 247, 248, 249, 250, 251, 252, 253, 254, 255, 256, 257, 258, 259, 260, 261, 262, 263, 264, 265, 266, 267, 268, 269, 270, 271, 272, 277, 278, 279, 280, 281, 282, 283, 284, 285, 286, 287, 288, 289, 302, 303, 304, 305, 306, 307, 308, 309, 310, 311, 312, 313, 314, 315, 316, 317, 318] (by decide +kernel) (by decide +kernel)) (goodIn_sub (fun _ h => List.mem_cons_of_mem _ (List.mem_append_right _ h)) (by decide +kernel))
set_option maxRecDepth 20000 in
theorem gL_areTextsSo_X4_textChar : GoodIn wsL_areTextsSo (wsV RL 92 RX4 yX4_textChar wsX4_textChar) := goodIn_app (goodIn_of _ (by decide +kernel)) ggL_areTextsSo_X4_textChar
set_option maxRecDepth 20000 in
theorem ggL_areTextsSo_L_isDigit : GoodIn wsL_areTextsSo wsL_isDigit := goodIn_r _ [292] (by decide +kernel) (by decide +kernel)
set_option maxRecDepth 20000 in
theorem gL_areTextsSo_L_isDigit : GoodIn wsL_areTextsSo (va_wsS RL 96 yL_isDigit wsL_isDigit) := goodIn_app (goodIn_of _ (by decide +kernel)) ggL_areTextsSo_L_isDigit
set_option maxRecDepth 20000 in
theorem ggL_areTextsSo_X4_numberAt : GoodIn wsL_areTextsSo wsX4_numberAt := goodIn_ca (goodIn_r _ [296, 28, 29, 30, 5, 31, 11, 12, 7, 8, 9, 10, 13, 14, 15, 16, 17, 18, 32, 33, 34, 35, 36, 37, 297, 73, 40, 74, 302, 303, 304, 305, 306, 307, 308, 309, 310, 311, 312, 313, 314] (by decide +kernel) (by decide +kernel)) (goodIn_sub (fun _ h => List.mem_cons_of_mem _ (List.mem_append_right _ h)) (by decide +kernel))
set_option maxRecDepth 20000 in
theorem gL_areTextsSo_X4_numberAt : GoodIn wsL_areTextsSo (wsV RL 99 RX4 yX4_numberAt wsX4_numberAt) := goodIn_app (goodIn_of _ (by decide +kernel)) ggL_areTextsSo_X4_numberAt
set_option maxRecDepth 20000 in
theorem ggL_areTextsSo_X4_next : GoodIn wsL_areTextsSo wsX4_next := goodIn_ca (goodIn_r _ [301, 7, 8, 9, 5, 10, 11, 12, 13, 14, 15, 16, 17, 18, 302, 303, 304, 305, 306, 307, 308, 309, 319, 320, 321, 322, 323, 324, 312, 313, 314] (by decide +kernel) (by decide +kernel)) (goodIn_sub (fun _ h => List.mem_cons_of_mem _ (List.mem_append_right _ h)) (by decide +kernel))
set_option maxRecDepth 20000 in
theorem gL_areTextsSo_X4_next : GoodIn wsL_areTextsSo (wsV RL 66 RX4 yX4_next wsX4_next) := goodIn_app (goodIn_of _ (by decide +kernel)) ggL_areTextsSo_X4_next
theorem dL_areTextsSo_0 : decode cL_areTextsSo 0 = .ok (.aload_n 0, 1) := by decide +kernel
theorem dL_areTextsSo_1 : decode cL_areTextsSo 1 = .ok (.iload_n 1, 1) := by decide +kernel
theorem dL_areTextsSo_2 : decode cL_areTextsSo 2 = .ok (.aload_n 0, 1) := by decide +kernel
theorem dL_areTextsSo_3 : decode cL_areTextsSo 3 = .ok (.iload_n 1, 1) := by decide +kernel
theorem dL_areTextsSo_4 : decode cL_areTextsSo 4 = .ok (.invokevirtual 75, 3) := by decide +kernel
theorem dL_areTextsSo_7 : decode cL_areTextsSo 7 = .ok (.invokestatic 87, 3) := by decide +kernel
theorem dL_areTextsSo_10 : decode cL_areTextsSo 10 = .ok (.ldc 43, 2) := by decide +kernel
theorem dL_areTextsSo_12 : decode cL_areTextsSo 12 = .ok (.if_icmp .ne 18, 3) := by decide +kernel
theorem dL_areTextsSo_15 : decode cL_areTextsSo 15 = .ok (.aload_n 0, 1) := by decide +kernel
theorem dL_areTextsSo_16 : decode cL_areTextsSo 16 = .ok (.iload_n 1, 1) := by decide +kernel
theorem dL_areTextsSo_17 : decode cL_areTextsSo 17 = .ok (.iconst (-1), 1) := by decide +kernel
theorem dL_areTextsSo_18 : decode cL_areTextsSo 18 = .ok (.invokestatic 87, 3) := by decide +kernel
theorem dL_areTextsSo_21 : decode cL_areTextsSo 21 = .ok (.ldc 43, 2) := by decide +kernel
theorem dL_areTextsSo_23 : decode cL_areTextsSo 23 = .ok (.if_icmp .ne 7, 3) := by decide +kernel
theorem dL_areTextsSo_26 : decode cL_areTextsSo 26 = .ok (.iconst 1, 1) := by decide +kernel
theorem dL_areTextsSo_27 : decode cL_areTextsSo 27 = .ok (.goto 4, 3) := by decide +kernel
theorem dL_areTextsSo_30 : decode cL_areTextsSo 30 = .ok (.iconst 0, 1) := by decide +kernel
theorem dL_areTextsSo_31 : decode cL_areTextsSo 31 = .ok (.istore_n 2, 1) := by decide +kernel
theorem dL_areTextsSo_32 : decode cL_areTextsSo 32 = .ok (.iconst 0, 1) := by decide +kernel
theorem dL_areTextsSo_33 : decode cL_areTextsSo 33 = .ok (.istore_n 3, 1) := by decide +kernel
theorem dL_areTextsSo_34 : decode cL_areTextsSo 34 = .ok (.iload_n 3, 1) := by decide +kernel
theorem dL_areTextsSo_35 : decode cL_areTextsSo 35 = .ok (.aload_n 0, 1) := by decide +kernel
theorem dL_areTextsSo_36 : decode cL_areTextsSo 36 = .ok (.iload_n 1, 1) := by decide +kernel
theorem dL_areTextsSo_37 : decode cL_areTextsSo 37 = .ok (.invokevirtual 75, 3) := by decide +kernel
theorem dL_areTextsSo_40 : decode cL_areTextsSo 40 = .ok (.if_icmp .ge 243, 3) := by decide +kernel
theorem dL_areTextsSo_43 : decode cL_areTextsSo 43 = .ok (.iload_n 2, 1) := by decide +kernel
theorem dL_areTextsSo_44 : decode cL_areTextsSo 44 = .ok (.ifCond .eq 239, 3) := by decide +kernel
theorem dL_areTextsSo_47 : decode cL_areTextsSo 47 = .ok (.aload_n 0, 1) := by decide +kernel
theorem dL_areTextsSo_48 : decode cL_areTextsSo 48 = .ok (.iload_n 1, 1) := by decide +kernel
theorem dL_areTextsSo_49 : decode cL_areTextsSo 49 = .ok (.iload_n 3, 1) := by decide +kernel
theorem dL_areTextsSo_50 : decode cL_areTextsSo 50 = .ok (.invokevirtual 48, 3) := by decide +kernel
theorem dL_areTextsSo_53 : decode cL_areTextsSo 53 = .ok (.istore 4, 2) := by decide +kernel
theorem dL_areTextsSo_55 : decode cL_areTextsSo 55 = .ok (.iconst 0, 1) := by decide +kernel
theorem dL_areTextsSo_56 : decode cL_areTextsSo 56 = .ok (.istore 5, 2) := by decide +kernel
theorem dL_areTextsSo_58 : decode cL_areTextsSo 58 = .ok (.iconst 0, 1) := by decide +kernel
theorem dL_areTextsSo_59 : decode cL_areTextsSo 59 = .ok (.istore 6, 2) := by decide +kernel
theorem dL_areTextsSo_61 : decode cL_areTextsSo 61 = .ok (.iconst 0, 1) := by decide +kernel
theorem dL_areTextsSo_62 : decode cL_areTextsSo 62 = .ok (.istore 7, 2) := by decide +kernel
theorem dL_areTextsSo_64 : decode cL_areTextsSo 64 = .ok (.iload 6, 2) := by decide +kernel
theorem dL_areTextsSo_66 : decode cL_areTextsSo 66 = .ok (.iload 4, 2) := by decide +kernel
theorem dL_areTextsSo_68 : decode cL_areTextsSo 68 = .ok (.if_icmp .ge 42, 3) := by decide +kernel
theorem dL_areTextsSo_71 : decode cL_areTextsSo 71 = .ok (.aload_n 0, 1) := by decide +kernel
theorem dL_areTextsSo_72 : decode cL_areTextsSo 72 = .ok (.iload_n 1, 1) := by decide +kernel
theorem dL_areTextsSo_73 : decode cL_areTextsSo 73 = .ok (.iload_n 3, 1) := by decide +kernel
theorem dL_areTextsSo_74 : decode cL_areTextsSo 74 = .ok (.iload 6, 2) := by decide +kernel
theorem dL_areTextsSo_76 : decode cL_areTextsSo 76 = .ok (.invokevirtual 92, 3) := by decide +kernel
theorem dL_areTextsSo_79 : decode cL_areTextsSo 79 = .ok (.invokestatic 96, 3) := by decide +kernel
theorem dL_areTextsSo_82 : decode cL_areTextsSo 82 = .ok (.ifCond .eq 28, 3) := by decide +kernel
theorem dL_areTextsSo_85 : decode cL_areTextsSo 85 = .ok (.bipush 10, 2) := by decide +kernel
theorem dL_areTextsSo_87 : decode cL_areTextsSo 87 = .ok (.iload 5, 2) := by decide +kernel
theorem dL_areTextsSo_89 : decode cL_areTextsSo 89 = .ok (.imul, 1) := by decide +kernel
theorem dL_areTextsSo_90 : decode cL_areTextsSo 90 = .ok (.aload_n 0, 1) := by decide +kernel
theorem dL_areTextsSo_91 : decode cL_areTextsSo 91 = .ok (.iload_n 1, 1) := by decide +kernel
theorem dL_areTextsSo_92 : decode cL_areTextsSo 92 = .ok (.iload_n 3, 1) := by decide +kernel
theorem dL_areTextsSo_93 : decode cL_areTextsSo 93 = .ok (.iload 6, 2) := by decide +kernel
theorem dL_areTextsSo_95 : decode cL_areTextsSo 95 = .ok (.invokevirtual 92, 3) := by decide +kernel
theorem dL_areTextsSo_98 : decode cL_areTextsSo 98 = .ok (.iadd, 1) := by decide +kernel
theorem dL_areTextsSo_99 : decode cL_areTextsSo 99 = .ok (.bipush 48, 2) := by decide +kernel
theorem dL_areTextsSo_101 : decode cL_areTextsSo 101 = .ok (.isub, 1) := by decide +kernel
theorem dL_areTextsSo_102 : decode cL_areTextsSo 102 = .ok (.istore 5, 2) := by decide +kernel
theorem dL_areTextsSo_104 : decode cL_areTextsSo 104 = .ok (.iinc 6 1, 3) := by decide +kernel
theorem dL_areTextsSo_107 : decode cL_areTextsSo 107 = .ok (.goto (-43), 3) := by decide +kernel
theorem dL_areTextsSo_110 : decode cL_areTextsSo 110 = .ok (.iconst 0, 1) := by decide +kernel
theorem dL_areTextsSo_111 : decode cL_areTextsSo 111 = .ok (.istore 8, 2) := by decide +kernel
theorem dL_areTextsSo_113 : decode cL_areTextsSo 113 = .ok (.iload 8, 2) := by decide +kernel
theorem dL_areTextsSo_115 : decode cL_areTextsSo 115 = .ok (.iload 4, 2) := by decide +kernel
theorem dL_areTextsSo_117 : decode cL_areTextsSo 117 = .ok (.if_icmp .ge 104, 3) := by decide +kernel
theorem dL_areTextsSo_120 : decode cL_areTextsSo 120 = .ok (.iload_n 2, 1) := by decide +kernel
theorem dL_areTextsSo_121 : decode cL_areTextsSo 121 = .ok (.ifCond .eq 100, 3) := by decide +kernel
theorem dL_areTextsSo_124 : decode cL_areTextsSo 124 = .ok (.aload_n 0, 1) := by decide +kernel
theorem dL_areTextsSo_125 : decode cL_areTextsSo 125 = .ok (.iload_n 1, 1) := by decide +kernel
theorem dL_areTextsSo_126 : decode cL_areTextsSo 126 = .ok (.iload_n 3, 1) := by decide +kernel
theorem dL_areTextsSo_127 : decode cL_areTextsSo 127 = .ok (.iload 8, 2) := by decide +kernel
theorem dL_areTextsSo_129 : decode cL_areTextsSo 129 = .ok (.invokevirtual 92, 3) := by decide +kernel
theorem dL_areTextsSo_132 : decode cL_areTextsSo 132 = .ok (.istore 9, 2) := by decide +kernel
theorem dL_areTextsSo_134 : decode cL_areTextsSo 134 = .ok (.iload 7, 2) := by decide +kernel
theorem dL_areTextsSo_136 : decode cL_areTextsSo 136 = .ok (.iload 9, 2) := by decide +kernel
theorem dL_areTextsSo_138 : decode cL_areTextsSo 138 = .ok (.bipush 32, 2) := by decide +kernel
theorem dL_areTextsSo_140 : decode cL_areTextsSo 140 = .ok (.if_icmp .ne 7, 3) := by decide +kernel
theorem dL_areTextsSo_143 : decode cL_areTextsSo 143 = .ok (.iconst 1, 1) := by decide +kernel
theorem dL_areTextsSo_144 : decode cL_areTextsSo 144 = .ok (.goto 4, 3) := by decide +kernel
theorem dL_areTextsSo_147 : decode cL_areTextsSo 147 = .ok (.iconst 0, 1) := by decide +kernel
theorem dL_areTextsSo_148 : decode cL_areTextsSo 148 = .ok (.iadd, 1) := by decide +kernel
theorem dL_areTextsSo_149 : decode cL_areTextsSo 149 = .ok (.istore 7, 2) := by decide +kernel
theorem dL_areTextsSo_151 : decode cL_areTextsSo 151 = .ok (.iload 9, 2) := by decide +kernel
theorem dL_areTextsSo_153 : decode cL_areTextsSo 153 = .ok (.invokestatic 96, 3) := by decide +kernel
theorem dL_areTextsSo_156 : decode cL_areTextsSo 156 = .ok (.ifCond .ne 53, 3) := by decide +kernel
theorem dL_areTextsSo_159 : decode cL_areTextsSo 159 = .ok (.iload 9, 2) := by decide +kernel
theorem dL_areTextsSo_161 : decode cL_areTextsSo 161 = .ok (.bipush 65, 2) := by decide +kernel
theorem dL_areTextsSo_163 : decode cL_areTextsSo 163 = .ok (.if_icmp .lt 10, 3) := by decide +kernel
theorem dL_areTextsSo_166 : decode cL_areTextsSo 166 = .ok (.iload 9, 2) := by decide +kernel
theorem dL_areTextsSo_168 : decode cL_areTextsSo 168 = .ok (.bipush 90, 2) := by decide +kernel
theorem dL_areTextsSo_170 : decode cL_areTextsSo 170 = .ok (.if_icmp .le 39, 3) := by decide +kernel
theorem dL_areTextsSo_173 : decode cL_areTextsSo 173 = .ok (.iload 9, 2) := by decide +kernel
theorem dL_areTextsSo_175 : decode cL_areTextsSo 175 = .ok (.bipush 32, 2) := by decide +kernel
theorem dL_areTextsSo_177 : decode cL_areTextsSo 177 = .ok (.if_icmp .ne 36, 3) := by decide +kernel
theorem dL_areTextsSo_180 : decode cL_areTextsSo 180 = .ok (.iload 8, 2) := by decide +kernel
theorem dL_areTextsSo_182 : decode cL_areTextsSo 182 = .ok (.ifCond .le 31, 3) := by decide +kernel
theorem dL_areTextsSo_185 : decode cL_areTextsSo 185 = .ok (.iload 8, 2) := by decide +kernel
theorem dL_areTextsSo_187 : decode cL_areTextsSo 187 = .ok (.iload 4, 2) := by decide +kernel
theorem dL_areTextsSo_189 : decode cL_areTextsSo 189 = .ok (.iconst 1, 1) := by decide +kernel
theorem dL_areTextsSo_190 : decode cL_areTextsSo 190 = .ok (.isub, 1) := by decide +kernel
theorem dL_areTextsSo_191 : decode cL_areTextsSo 191 = .ok (.if_icmp .ge 22, 3) := by decide +kernel
theorem dL_areTextsSo_194 : decode cL_areTextsSo 194 = .ok (.aload_n 0, 1) := by decide +kernel
theorem dL_areTextsSo_195 : decode cL_areTextsSo 195 = .ok (.iload_n 1, 1) := by decide +kernel
theorem dL_areTextsSo_196 : decode cL_areTextsSo 196 = .ok (.iload_n 3, 1) := by decide +kernel
theorem dL_areTextsSo_197 : decode cL_areTextsSo 197 = .ok (.iload 8, 2) := by decide +kernel
theorem dL_areTextsSo_199 : decode cL_areTextsSo 199 = .ok (.iconst 1, 1) := by decide +kernel
theorem dL_areTextsSo_200 : decode cL_areTextsSo 200 = .ok (.isub, 1) := by decide +kernel
theorem dL_areTextsSo_201 : decode cL_areTextsSo 201 = .ok (.invokevirtual 92, 3) := by decide +kernel
theorem dL_areTextsSo_204 : decode cL_areTextsSo 204 = .ok (.bipush 32, 2) := by decide +kernel
theorem dL_areTextsSo_206 : decode cL_areTextsSo 206 = .ok (.if_icmp .eq 7, 3) := by decide +kernel
theorem dL_areTextsSo_209 : decode cL_areTextsSo 209 = .ok (.iconst 1, 1) := by decide +kernel
theorem dL_areTextsSo_210 : decode cL_areTextsSo 210 = .ok (.goto 4, 3) := by decide +kernel
theorem dL_areTextsSo_213 : decode cL_areTextsSo 213 = .ok (.iconst 0, 1) := by decide +kernel
theorem dL_areTextsSo_214 : decode cL_areTextsSo 214 = .ok (.istore_n 2, 1) := by decide +kernel
theorem dL_areTextsSo_215 : decode cL_areTextsSo 215 = .ok (.iinc 8 1, 3) := by decide +kernel
theorem dL_areTextsSo_218 : decode cL_areTextsSo 218 = .ok (.goto (-105), 3) := by decide +kernel
theorem dL_areTextsSo_221 : decode cL_areTextsSo 221 = .ok (.iload_n 2, 1) := by decide +kernel
theorem dL_areTextsSo_222 : decode cL_areTextsSo 222 = .ok (.ifCond .eq 53, 3) := by decide +kernel
theorem dL_areTextsSo_225 : decode cL_areTextsSo 225 = .ok (.iload 6, 2) := by decide +kernel
theorem dL_areTextsSo_227 : decode cL_areTextsSo 227 = .ok (.ifCond .le 48, 3) := by decide +kernel
theorem dL_areTextsSo_230 : decode cL_areTextsSo 230 = .ok (.iload 5, 2) := by decide +kernel
theorem dL_areTextsSo_232 : decode cL_areTextsSo 232 = .ok (.aload_n 0, 1) := by decide +kernel
theorem dL_areTextsSo_233 : decode cL_areTextsSo 233 = .ok (.iload_n 1, 1) := by decide +kernel
theorem dL_areTextsSo_234 : decode cL_areTextsSo 234 = .ok (.iload_n 3, 1) := by decide +kernel
theorem dL_areTextsSo_235 : decode cL_areTextsSo 235 = .ok (.invokevirtual 99, 3) := by decide +kernel
theorem dL_areTextsSo_238 : decode cL_areTextsSo 238 = .ok (.if_icmp .ne 37, 3) := by decide +kernel
theorem dL_areTextsSo_241 : decode cL_areTextsSo 241 = .ok (.iload 5, 2) := by decide +kernel
theorem dL_areTextsSo_243 : decode cL_areTextsSo 243 = .ok (.iconst 1, 1) := by decide +kernel
theorem dL_areTextsSo_244 : decode cL_areTextsSo 244 = .ok (.if_icmp .lt 31, 3) := by decide +kernel
theorem dL_areTextsSo_247 : decode cL_areTextsSo 247 = .ok (.iload 5, 2) := by decide +kernel
theorem dL_areTextsSo_249 : decode cL_areTextsSo 249 = .ok (.aload_n 0, 1) := by decide +kernel
theorem dL_areTextsSo_250 : decode cL_areTextsSo 250 = .ok (.iconst 1, 1) := by decide +kernel
theorem dL_areTextsSo_251 : decode cL_areTextsSo 251 = .ok (.iload_n 1, 1) := by decide +kernel
theorem dL_areTextsSo_252 : decode cL_areTextsSo 252 = .ok (.isub, 1) := by decide +kernel
theorem dL_areTextsSo_253 : decode cL_areTextsSo 253 = .ok (.invokevirtual 66, 3) := by decide +kernel
theorem dL_areTextsSo_256 : decode cL_areTextsSo 256 = .ok (.if_icmp .ge 19, 3) := by decide +kernel
theorem dL_areTextsSo_259 : decode cL_areTextsSo 259 = .ok (.iload 7, 2) := by decide +kernel
theorem dL_areTextsSo_261 : decode cL_areTextsSo 261 = .ok (.iconst 1, 1) := by decide +kernel
theorem dL_areTextsSo_262 : decode cL_areTextsSo 262 = .ok (.if_icmp .lt 13, 3) := by decide +kernel
theorem dL_areTextsSo_265 : decode cL_areTextsSo 265 = .ok (.iload 7, 2) := by decide +kernel
theorem dL_areTextsSo_267 : decode cL_areTextsSo 267 = .ok (.iconst 4, 1) := by decide +kernel
theorem dL_areTextsSo_268 : decode cL_areTextsSo 268 = .ok (.if_icmp .gt 7, 3) := by decide +kernel
theorem dL_areTextsSo_271 : decode cL_areTextsSo 271 = .ok (.iconst 1, 1) := by decide +kernel
theorem dL_areTextsSo_272 : decode cL_areTextsSo 272 = .ok (.goto 4, 3) := by decide +kernel
theorem dL_areTextsSo_275 : decode cL_areTextsSo 275 = .ok (.iconst 0, 1) := by decide +kernel
theorem dL_areTextsSo_276 : decode cL_areTextsSo 276 = .ok (.istore_n 2, 1) := by decide +kernel
theorem dL_areTextsSo_277 : decode cL_areTextsSo 277 = .ok (.iinc 3 1, 3) := by decide +kernel
theorem dL_areTextsSo_280 : decode cL_areTextsSo 280 = .ok (.goto (-246), 3) := by decide +kernel
theorem dL_areTextsSo_283 : decode cL_areTextsSo 283 = .ok (.iload_n 2, 1) := by decide +kernel
theorem dL_areTextsSo_284 : decode cL_areTextsSo 284 = .ok (.ireturn, 1) := by decide +kernel
set_option maxRecDepth 20000 in
theorem ggL_areSidesSo_X4_stateOf : GoodIn wsL_areSidesSo wsX4_stateOf := goodIn_ca (goodIn_r _ [6, 7, 8, 9, 5, 10, 11, 12, 13, 14, 15, 16, 17, 18, 101, 102, 103, 104, 105, 106, 107, 108, 109, 110, 111] (by decide +kernel) (by decide +kernel)) (goodIn_sub (fun _ h => List.mem_cons_of_mem _ (List.mem_append_right _ h)) (by decide +kernel))
set_option maxRecDepth 20000 in
theorem gL_areSidesSo_X4_stateOf : GoodIn wsL_areSidesSo (wsV RL 63 RX4 yX4_stateOf wsX4_stateOf) := goodIn_app (goodIn_of _ (by decide +kernel)) ggL_areSidesSo_X4_stateOf
set_option maxRecDepth 20000 in
theorem ggL_areSidesSo_X4_next : GoodIn wsL_areSidesSo wsX4_next := goodIn_ca (goodIn_r _ [22, 7, 8, 9, 5, 10, 11, 12, 13, 14, 15, 16, 17, 18, 101, 102, 103, 104, 105, 106, 107, 108, 112, 113, 114, 115, 116, 117, 109, 110, 111] (by decide +kernel) (by decide +kernel)) (goodIn_sub (fun _ h => List.mem_cons_of_mem _ (List.mem_append_right _ h)) (by decide +kernel))
set_option maxRecDepth 20000 in
theorem gL_areSidesSo_X4_next : GoodIn wsL_areSidesSo (wsV RL 66 RX4 yX4_next wsX4_next) := goodIn_app (goodIn_of _ (by decide +kernel)) ggL_areSidesSo_X4_next
set_option maxRecDepth 20000 in
theorem ggL_areSidesSo_X4_expected : GoodIn wsL_areSidesSo wsX4_expected := goodIn_ca (goodIn_r _ [26, 7, 8, 9, 5, 10, 11, 12, 13, 14, 15, 16, 17, 18, 101, 102, 103, 104, 105, 106, 107, 108, 112, 113, 114, 115, 116, 117, 109, 110, 111] (by decide +kernel) (by decide +kernel)) (goodIn_sub (fun _ h => List.mem_cons_of_mem _ (List.mem_append_right _ h)) (by decide +kernel))
set_option maxRecDepth 20000 in
theorem gL_areSidesSo_X4_expected : GoodIn wsL_areSidesSo (wsV RL 69 RX4 yX4_expected wsX4_expected) := goodIn_app (goodIn_of _ (by decide +kernel)) ggL_areSidesSo_X4_expected
set_option maxRecDepth 20000 in
theorem ggL_areSidesSo_X4_wire : GoodIn wsL_areSidesSo wsX4_wire := goodIn_ca (goodIn_r _ [30, 7, 8, 9, 5, 10, 11, 12, 13, 14, 15, 16, 17, 18, 101, 102, 103, 104, 105, 106, 107, 108, 118, 119, 109, 110, 111] (by decide +kernel) (by decide +kernel)) (goodIn_sub (fun _ h => List.mem_cons_of_mem _ (List.mem_append_right _ h)) (by decide +kernel))
set_option maxRecDepth 20000 in
theorem gL_areSidesSo_X4_wire : GoodIn wsL_areSidesSo (wsV RL 75 RX4 yX4_wire wsX4_wire) := goodIn_app (goodIn_of _ (by decide +kernel)) ggL_areSidesSo_X4_wire
set_option maxRecDepth 20000 in
theorem ggL_areSidesSo_X4_agreed : GoodIn wsL_areSidesSo wsX4_agreed := goodIn_ca (goodIn_r _ [34, 35, 36, 37, 38, 7, 8, 9, 5, 10, 11, 12, 13, 14, 15, 16, 17, 18, 39, 40, 41, 42, 43, 44, 45, 46, 47, 48, 49, 50, 51, 52, 53, 54, 55, 56, 57, 58, 59, 60, 61, 62, 63, 64, 65, 66, 67, 68, 69, 70, 71, 72, 73, 74, 75, 76, 77, 78, 79, 101, 102, 103, 104, 105, 106, 107, 108, 112, 113, 114, 115, 116, 117, 109, 110, 111] (by decide +kernel) (by decide +kernel)) (goodIn_sub (fun _ h => List.mem_cons_of_mem _ (List.mem_append_right _ h)) (by decide +kernel))
set_option maxRecDepth 20000 in
theorem gL_areSidesSo_X4_agreed : GoodIn wsL_areSidesSo (wsV RL 84 RX4 yX4_agreed wsX4_agreed) := goodIn_app (goodIn_of _ (by decide +kernel)) ggL_areSidesSo_X4_agreed
set_option maxRecDepth 20000 in
theorem ggL_areSidesSo_X4_handled : GoodIn wsL_areSidesSo wsX4_handled := goodIn_ca (goodIn_r _ [83, 7, 8, 9, 5, 10, 11, 12, 13, 14, 15, 16, 17, 18, 101, 102, 103, 104, 105, 106, 107, 108, 112, 113, 114, 115, 116, 117, 109, 110, 111] (by decide +kernel) (by decide +kernel)) (goodIn_sub (fun _ h => List.mem_cons_of_mem _ (List.mem_append_right _ h)) (by decide +kernel))
set_option maxRecDepth 20000 in
theorem gL_areSidesSo_X4_handled : GoodIn wsL_areSidesSo (wsV RL 78 RX4 yX4_handled wsX4_handled) := goodIn_app (goodIn_of _ (by decide +kernel)) ggL_areSidesSo_X4_handled
set_option maxRecDepth 20000 in
theorem ggL_areSidesSo_X4_doubles : GoodIn wsL_areSidesSo wsX4_doubles := goodIn_ca (goodIn_r _ [87, 7, 8, 9, 5, 10, 11, 12, 13, 14, 15, 16, 17, 18, 101, 102, 103, 104, 105, 106, 107, 108, 112, 113, 114, 115, 116, 117, 109, 110, 111] (by decide +kernel) (by decide +kernel)) (goodIn_sub (fun _ h => List.mem_cons_of_mem _ (List.mem_append_right _ h)) (by decide +kernel))
set_option maxRecDepth 20000 in
theorem gL_areSidesSo_X4_doubles : GoodIn wsL_areSidesSo (wsV RL 81 RX4 yX4_doubles wsX4_doubles) := goodIn_app (goodIn_of _ (by decide +kernel)) ggL_areSidesSo_X4_doubles
set_option maxRecDepth 20000 in
theorem ggL_areSidesSo_X4_isAsking : GoodIn wsL_areSidesSo wsX4_isAsking := goodIn_ca (goodIn_r _ [91, 7, 8, 9, 5, 10, 11, 12, 13, 14, 15, 16, 17, 18, 101, 102, 103, 104, 105, 106, 107, 108, 109, 110, 111] (by decide +kernel) (by decide +kernel)) (goodIn_sub (fun _ h => List.mem_cons_of_mem _ (List.mem_append_right _ h)) (by decide +kernel))
set_option maxRecDepth 20000 in
theorem gL_areSidesSo_X4_isAsking : GoodIn wsL_areSidesSo (wsV RL 72 RX4 yX4_isAsking wsX4_isAsking) := goodIn_app (goodIn_of _ (by decide +kernel)) ggL_areSidesSo_X4_isAsking
set_option maxRecDepth 20000 in
theorem ggL_areSidesSo_L_handledKey : GoodIn wsL_areSidesSo wsL_handledKey := goodIn_ca (goodIn_r _ [95, 96, 1, 97, 98, 99, 5, 100, 11, 12, 7, 8, 9, 10, 13, 14, 15, 16, 17, 18, 73, 74, 75, 46, 76, 77, 101, 102, 103, 104, 105, 106, 107, 108, 112, 113, 114, 115, 116, 117, 109, 110, 111] (by decide +kernel) (by decide +kernel)) (goodIn_sub (fun _ h => List.mem_cons_of_mem _ (List.mem_append_right _ h)) (by decide +kernel))
set_option maxRecDepth 20000 in
theorem gL_areSidesSo_L_handledKey : GoodIn wsL_areSidesSo (va_wsS RL 90 yL_handledKey wsL_handledKey) := goodIn_app (goodIn_of _ (by decide +kernel)) ggL_areSidesSo_L_handledKey
theorem dL_areSidesSo_0 : decode cL_areSidesSo 0 = .ok (.iconst 1, 1) := by decide +kernel
theorem dL_areSidesSo_1 : decode cL_areSidesSo 1 = .ok (.istore_n 1, 1) := by decide +kernel
theorem dL_areSidesSo_2 : decode cL_areSidesSo 2 = .ok (.iconst 0, 1) := by decide +kernel
theorem dL_areSidesSo_3 : decode cL_areSidesSo 3 = .ok (.istore_n 2, 1) := by decide +kernel
theorem dL_areSidesSo_4 : decode cL_areSidesSo 4 = .ok (.iload_n 2, 1) := by decide +kernel
theorem dL_areSidesSo_5 : decode cL_areSidesSo 5 = .ok (.iconst 2, 1) := by decide +kernel
theorem dL_areSidesSo_6 : decode cL_areSidesSo 6 = .ok (.if_icmp .ge 158, 3) := by decide +kernel
theorem dL_areSidesSo_9 : decode cL_areSidesSo 9 = .ok (.iload_n 1, 1) := by decide +kernel
theorem dL_areSidesSo_10 : decode cL_areSidesSo 10 = .ok (.ifCond .eq 154, 3) := by decide +kernel
theorem dL_areSidesSo_13 : decode cL_areSidesSo 13 = .ok (.aload_n 0, 1) := by decide +kernel
theorem dL_areSidesSo_14 : decode cL_areSidesSo 14 = .ok (.iload_n 2, 1) := by decide +kernel
theorem dL_areSidesSo_15 : decode cL_areSidesSo 15 = .ok (.invokevirtual 63, 3) := by decide +kernel
theorem dL_areSidesSo_18 : decode cL_areSidesSo 18 = .ok (.istore_n 3, 1) := by decide +kernel
theorem dL_areSidesSo_19 : decode cL_areSidesSo 19 = .ok (.iload_n 3, 1) := by decide +kernel
theorem dL_areSidesSo_20 : decode cL_areSidesSo 20 = .ok (.ifCond .lt 136, 3) := by decide +kernel
theorem dL_areSidesSo_23 : decode cL_areSidesSo 23 = .ok (.iload_n 3, 1) := by decide +kernel
theorem dL_areSidesSo_24 : decode cL_areSidesSo 24 = .ok (.iconst 2, 1) := by decide +kernel
theorem dL_areSidesSo_25 : decode cL_areSidesSo 25 = .ok (.if_icmp .gt 131, 3) := by decide +kernel
theorem dL_areSidesSo_28 : decode cL_areSidesSo 28 = .ok (.aload_n 0, 1) := by decide +kernel
theorem dL_areSidesSo_29 : decode cL_areSidesSo 29 = .ok (.iload_n 2, 1) := by decide +kernel
theorem dL_areSidesSo_30 : decode cL_areSidesSo 30 = .ok (.invokevirtual 66, 3) := by decide +kernel
theorem dL_areSidesSo_33 : decode cL_areSidesSo 33 = .ok (.iconst 1, 1) := by decide +kernel
theorem dL_areSidesSo_34 : decode cL_areSidesSo 34 = .ok (.if_icmp .lt 122, 3) := by decide +kernel
theorem dL_areSidesSo_37 : decode cL_areSidesSo 37 = .ok (.aload_n 0, 1) := by decide +kernel
theorem dL_areSidesSo_38 : decode cL_areSidesSo 38 = .ok (.iload_n 2, 1) := by decide +kernel
theorem dL_areSidesSo_39 : decode cL_areSidesSo 39 = .ok (.invokevirtual 66, 3) := by decide +kernel
theorem dL_areSidesSo_42 : decode cL_areSidesSo 42 = .ok (.sipush 201, 3) := by decide +kernel
theorem dL_areSidesSo_45 : decode cL_areSidesSo 45 = .ok (.if_icmp .gt 111, 3) := by decide +kernel
theorem dL_areSidesSo_48 : decode cL_areSidesSo 48 = .ok (.aload_n 0, 1) := by decide +kernel
theorem dL_areSidesSo_49 : decode cL_areSidesSo 49 = .ok (.iload_n 2, 1) := by decide +kernel
theorem dL_areSidesSo_50 : decode cL_areSidesSo 50 = .ok (.invokevirtual 69, 3) := by decide +kernel
theorem dL_areSidesSo_53 : decode cL_areSidesSo 53 = .ok (.iconst 1, 1) := by decide +kernel
theorem dL_areSidesSo_54 : decode cL_areSidesSo 54 = .ok (.if_icmp .lt 102, 3) := by decide +kernel
theorem dL_areSidesSo_57 : decode cL_areSidesSo 57 = .ok (.aload_n 0, 1) := by decide +kernel
theorem dL_areSidesSo_58 : decode cL_areSidesSo 58 = .ok (.iload_n 2, 1) := by decide +kernel
theorem dL_areSidesSo_59 : decode cL_areSidesSo 59 = .ok (.invokevirtual 69, 3) := by decide +kernel
theorem dL_areSidesSo_62 : decode cL_areSidesSo 62 = .ok (.aload_n 0, 1) := by decide +kernel
theorem dL_areSidesSo_63 : decode cL_areSidesSo 63 = .ok (.iconst 1, 1) := by decide +kernel
theorem dL_areSidesSo_64 : decode cL_areSidesSo 64 = .ok (.iload_n 2, 1) := by decide +kernel
theorem dL_areSidesSo_65 : decode cL_areSidesSo 65 = .ok (.isub, 1) := by decide +kernel
theorem dL_areSidesSo_66 : decode cL_areSidesSo 66 = .ok (.invokevirtual 66, 3) := by decide +kernel
theorem dL_areSidesSo_69 : decode cL_areSidesSo 69 = .ok (.if_icmp .gt 87, 3) := by decide +kernel
theorem dL_areSidesSo_72 : decode cL_areSidesSo 72 = .ok (.aload_n 0, 1) := by decide +kernel
theorem dL_areSidesSo_73 : decode cL_areSidesSo 73 = .ok (.iload_n 2, 1) := by decide +kernel
theorem dL_areSidesSo_74 : decode cL_areSidesSo 74 = .ok (.invokevirtual 75, 3) := by decide +kernel
theorem dL_areSidesSo_77 : decode cL_areSidesSo 77 = .ok (.ifCond .lt 79, 3) := by decide +kernel
theorem dL_areSidesSo_80 : decode cL_areSidesSo 80 = .ok (.aload_n 0, 1) := by decide +kernel
theorem dL_areSidesSo_81 : decode cL_areSidesSo 81 = .ok (.iload_n 2, 1) := by decide +kernel
theorem dL_areSidesSo_82 : decode cL_areSidesSo 82 = .ok (.invokevirtual 75, 3) := by decide +kernel
theorem dL_areSidesSo_85 : decode cL_areSidesSo 85 = .ok (.bipush 60, 2) := by decide +kernel
theorem dL_areSidesSo_87 : decode cL_areSidesSo 87 = .ok (.if_icmp .gt 69, 3) := by decide +kernel
theorem dL_areSidesSo_90 : decode cL_areSidesSo 90 = .ok (.aload_n 0, 1) := by decide +kernel
theorem dL_areSidesSo_91 : decode cL_areSidesSo 91 = .ok (.iload_n 2, 1) := by decide +kernel
theorem dL_areSidesSo_92 : decode cL_areSidesSo 92 = .ok (.invokevirtual 84, 3) := by decide +kernel
theorem dL_areSidesSo_95 : decode cL_areSidesSo 95 = .ok (.aload_n 0, 1) := by decide +kernel
theorem dL_areSidesSo_96 : decode cL_areSidesSo 96 = .ok (.iload_n 2, 1) := by decide +kernel
theorem dL_areSidesSo_97 : decode cL_areSidesSo 97 = .ok (.invokevirtual 78, 3) := by decide +kernel
theorem dL_areSidesSo_100 : decode cL_areSidesSo 100 = .ok (.if_icmp .ne 56, 3) := by decide +kernel
theorem dL_areSidesSo_103 : decode cL_areSidesSo 103 = .ok (.aload_n 0, 1) := by decide +kernel
theorem dL_areSidesSo_104 : decode cL_areSidesSo 104 = .ok (.iload_n 2, 1) := by decide +kernel
theorem dL_areSidesSo_105 : decode cL_areSidesSo 105 = .ok (.invokevirtual 78, 3) := by decide +kernel
theorem dL_areSidesSo_108 : decode cL_areSidesSo 108 = .ok (.aload_n 0, 1) := by decide +kernel
theorem dL_areSidesSo_109 : decode cL_areSidesSo 109 = .ok (.iload_n 2, 1) := by decide +kernel
theorem dL_areSidesSo_110 : decode cL_areSidesSo 110 = .ok (.invokevirtual 69, 3) := by decide +kernel
theorem dL_areSidesSo_113 : decode cL_areSidesSo 113 = .ok (.if_icmp .ge 43, 3) := by decide +kernel
theorem dL_areSidesSo_116 : decode cL_areSidesSo 116 = .ok (.aload_n 0, 1) := by decide +kernel
theorem dL_areSidesSo_117 : decode cL_areSidesSo 117 = .ok (.iload_n 2, 1) := by decide +kernel
theorem dL_areSidesSo_118 : decode cL_areSidesSo 118 = .ok (.invokevirtual 81, 3) := by decide +kernel
theorem dL_areSidesSo_121 : decode cL_areSidesSo 121 = .ok (.ifCond .lt 35, 3) := by decide +kernel
theorem dL_areSidesSo_124 : decode cL_areSidesSo 124 = .ok (.iload_n 3, 1) := by decide +kernel
theorem dL_areSidesSo_125 : decode cL_areSidesSo 125 = .ok (.iconst 2, 1) := by decide +kernel
theorem dL_areSidesSo_126 : decode cL_areSidesSo 126 = .ok (.if_icmp .eq 11, 3) := by decide +kernel
theorem dL_areSidesSo_129 : decode cL_areSidesSo 129 = .ok (.aload_n 0, 1) := by decide +kernel
theorem dL_areSidesSo_130 : decode cL_areSidesSo 130 = .ok (.iload_n 2, 1) := by decide +kernel
theorem dL_areSidesSo_131 : decode cL_areSidesSo 131 = .ok (.invokevirtual 72, 3) := by decide +kernel
theorem dL_areSidesSo_134 : decode cL_areSidesSo 134 = .ok (.ifCond .ne 22, 3) := by decide +kernel
theorem dL_areSidesSo_137 : decode cL_areSidesSo 137 = .ok (.aload_n 0, 1) := by decide +kernel
theorem dL_areSidesSo_138 : decode cL_areSidesSo 138 = .ok (.iload_n 2, 1) := by decide +kernel
theorem dL_areSidesSo_139 : decode cL_areSidesSo 139 = .ok (.aload_n 0, 1) := by decide +kernel
theorem dL_areSidesSo_140 : decode cL_areSidesSo 140 = .ok (.iload_n 2, 1) := by decide +kernel
theorem dL_areSidesSo_141 : decode cL_areSidesSo 141 = .ok (.invokevirtual 78, 3) := by decide +kernel
theorem dL_areSidesSo_144 : decode cL_areSidesSo 144 = .ok (.invokestatic 90, 3) := by decide +kernel
theorem dL_areSidesSo_147 : decode cL_areSidesSo 147 = .ok (.ldc 43, 2) := by decide +kernel
theorem dL_areSidesSo_149 : decode cL_areSidesSo 149 = .ok (.if_icmp .ne 7, 3) := by decide +kernel
theorem dL_areSidesSo_152 : decode cL_areSidesSo 152 = .ok (.iconst 1, 1) := by decide +kernel
theorem dL_areSidesSo_153 : decode cL_areSidesSo 153 = .ok (.goto 4, 3) := by decide +kernel
theorem dL_areSidesSo_156 : decode cL_areSidesSo 156 = .ok (.iconst 0, 1) := by decide +kernel
theorem dL_areSidesSo_157 : decode cL_areSidesSo 157 = .ok (.istore_n 1, 1) := by decide +kernel
theorem dL_areSidesSo_158 : decode cL_areSidesSo 158 = .ok (.iinc 2 1, 3) := by decide +kernel
theorem dL_areSidesSo_161 : decode cL_areSidesSo 161 = .ok (.goto (-157), 3) := by decide +kernel
theorem dL_areSidesSo_164 : decode cL_areSidesSo 164 = .ok (.iload_n 1, 1) := by decide +kernel
theorem dL_areSidesSo_165 : decode cL_areSidesSo 165 = .ok (.ireturn, 1) := by decide +kernel
set_option maxRecDepth 20000 in
theorem ggL_isSettledSo_X4_wire : GoodIn wsL_isSettledSo wsX4_wire := goodIn_ca (goodIn_r _ [5, 6, 7, 8, 4, 9, 10, 11, 12, 13, 14, 15, 16, 17, 216, 217, 218, 219, 220, 221, 222, 223, 224, 225, 226, 227, 228] (by decide +kernel) (by decide +kernel)) (goodIn_sub (fun _ h => List.mem_cons_of_mem _ (List.mem_append_left _ (List.mem_append_right _ h))) (by decide +kernel))
set_option maxRecDepth 20000 in
theorem gL_isSettledSo_X4_wire : GoodIn wsL_isSettledSo (wsV RL 75 RX4 yX4_wire wsX4_wire) := goodIn_app (goodIn_of _ (by decide +kernel)) ggL_isSettledSo_X4_wire
set_option maxRecDepth 20000 in
theorem ggL_isSettledSo_X4_deliver : GoodIn wsL_isSettledSo wsX4_deliver := goodIn_ca (goodIn_ca (goodIn_r _ [21, 22, 23, 24, 25, 4, 26, 27, 28, 6, 7, 8, 9, 10, 11, 12, 13, 14, 15, 16, 17, 29, 30, 31, 32, 33, 34, 35, 36, 37, 38, 39, 40, 41, 42, 43, 44, 45, 46, 47, 48, 49, 50, 51, 52, 53, 54, 55, 56, 57, 58, 59, 60, 61, 62, 63, 64, 65, 66, 67, 68, 69, 70, 71, 72, 73, 74, 75, 76, 77, 78, 79, 80, 81, 82, 83, 84, 85, 86, 87, 88, 89, 90, 91, 92, 93, 94, 95, 96, 97, 98, 99, 100, 101, 102, 103, 104, 105, 106, 107, 108, 109, 110, 111, 112, 113, 114, 115, 116, 117, 118, 119, 120, 121, 122, 123, 124, 125, 126, 127, 128, 129, 130, 131, 132, 133, 134, 135, 136, 137, 138, 139, 140, 141, 142, 143, 144, 145, 146, 147, 148, 149, 150, 151, 152, 153, 154, 155, 156, 157, 158, 226, 227, 228, 216, 217, 218, 219, 220, 221, 222, 223, 224, 225, 229, 230, 231, 232, 233, 234] (by decide +kernel) (by decide +kernel)) (goodIn_sub (fun _ h => List.mem_cons_of_mem _ (List.mem_append_right _ h)) (by decide +kernel))) (goodIn_sub (fun _ h => List.mem_cons_of_mem _ (List.mem_append_left _ (List.mem_append_right _ h))) (by decide +kernel))
set_option maxRecDepth 20000 in
theorem gL_isSettledSo_X4_deliver : GoodIn wsL_isSettledSo (wsV RL 28 RX4 yX4_deliver wsX4_deliver) := goodIn_app (goodIn_of _ (by decide +kernel)) ggL_isSettledSo_X4_deliver
set_option maxRecDepth 20000 in
theorem ggL_isSettledSo_L_areSidesSo : GoodIn wsL_isSettledSo wsL_areSidesSo := goodIn_ca (goodIn_r _ [162, 163, 164, 165, 166, 4, 167, 6, 7, 8, 9, 10, 11, 12, 13, 14, 15, 16, 17, 168, 169, 170, 171, 172, 173, 174, 175, 1, 2, 3, 5, 176, 177, 178, 179, 180, 181, 116, 182, 102, 103, 104, 105, 183, 184, 185, 87, 186, 187, 188, 119, 120, 121, 89, 122, 123, 124, 125, 97, 126, 52, 53, 54, 189, 64, 65, 190, 73, 74, 191, 192, 193, 194, 195, 147, 148, 149, 150, 131, 72, 196, 197, 198, 199, 200, 201, 202, 203, 204, 205, 206, 207, 208, 209, 161, 210, 211, 212, 213, 214, 215, 216, 217, 218, 219, 220, 221, 222, 223, 226, 227, 228, 229, 230, 231, 232, 233, 234, 224, 225] (by decide +kernel) (by decide +kernel)) (goodIn_sub (fun _ h => List.mem_cons_of_mem _ (List.mem_append_left _ (List.mem_append_right _ h))) (by decide +kernel))
set_option maxRecDepth 20000 in
theorem gL_isSettledSo_L_areSidesSo : GoodIn wsL_isSettledSo (va_wsS RL 102 yL_areSidesSo wsL_areSidesSo) := goodIn_app (goodIn_of _ (by decide +kernel)) ggL_isSettledSo_L_areSidesSo
theorem dL_isSettledSo_0 : decode cL_isSettledSo 0 = .ok (.iconst 1, 1) := by decide +kernel
theorem dL_isSettledSo_1 : decode cL_isSettledSo 1 = .ok (.istore_n 2, 1) := by decide +kernel
theorem dL_isSettledSo_2 : decode cL_isSettledSo 2 = .ok (.sipush 400, 3) := by decide +kernel
theorem dL_isSettledSo_5 : decode cL_isSettledSo 5 = .ok (.istore_n 3, 1) := by decide +kernel
theorem dL_isSettledSo_6 : decode cL_isSettledSo 6 = .ok (.iload_n 2, 1) := by decide +kernel
theorem dL_isSettledSo_7 : decode cL_isSettledSo 7 = .ok (.ifCond .eq 63, 3) := by decide +kernel
theorem dL_isSettledSo_10 : decode cL_isSettledSo 10 = .ok (.iload_n 3, 1) := by decide +kernel
theorem dL_isSettledSo_11 : decode cL_isSettledSo 11 = .ok (.ifCond .le 59, 3) := by decide +kernel
theorem dL_isSettledSo_14 : decode cL_isSettledSo 14 = .ok (.aload_n 0, 1) := by decide +kernel
theorem dL_isSettledSo_15 : decode cL_isSettledSo 15 = .ok (.iconst 0, 1) := by decide +kernel
theorem dL_isSettledSo_16 : decode cL_isSettledSo 16 = .ok (.invokevirtual 75, 3) := by decide +kernel
theorem dL_isSettledSo_19 : decode cL_isSettledSo 19 = .ok (.aload_n 0, 1) := by decide +kernel
theorem dL_isSettledSo_20 : decode cL_isSettledSo 20 = .ok (.iconst 1, 1) := by decide +kernel
theorem dL_isSettledSo_21 : decode cL_isSettledSo 21 = .ok (.invokevirtual 75, 3) := by decide +kernel
theorem dL_isSettledSo_24 : decode cL_isSettledSo 24 = .ok (.iadd, 1) := by decide +kernel
theorem dL_isSettledSo_25 : decode cL_isSettledSo 25 = .ok (.ifCond .le 45, 3) := by decide +kernel
theorem dL_isSettledSo_28 : decode cL_isSettledSo 28 = .ok (.aload_n 0, 1) := by decide +kernel
theorem dL_isSettledSo_29 : decode cL_isSettledSo 29 = .ok (.iconst 0, 1) := by decide +kernel
theorem dL_isSettledSo_30 : decode cL_isSettledSo 30 = .ok (.invokevirtual 75, 3) := by decide +kernel
theorem dL_isSettledSo_33 : decode cL_isSettledSo 33 = .ok (.ifCond .le 7, 3) := by decide +kernel
theorem dL_isSettledSo_36 : decode cL_isSettledSo 36 = .ok (.iconst 0, 1) := by decide +kernel
theorem dL_isSettledSo_37 : decode cL_isSettledSo 37 = .ok (.goto 4, 3) := by decide +kernel
theorem dL_isSettledSo_40 : decode cL_isSettledSo 40 = .ok (.iconst 1, 1) := by decide +kernel
theorem dL_isSettledSo_41 : decode cL_isSettledSo 41 = .ok (.istore 4, 2) := by decide +kernel
theorem dL_isSettledSo_43 : decode cL_isSettledSo 43 = .ok (.aload_n 0, 1) := by decide +kernel
theorem dL_isSettledSo_44 : decode cL_isSettledSo 44 = .ok (.iload 4, 2) := by decide +kernel
theorem dL_isSettledSo_46 : decode cL_isSettledSo 46 = .ok (.invokevirtual 28, 3) := by decide +kernel
theorem dL_isSettledSo_49 : decode cL_isSettledSo 49 = .ok (.aload_n 1, 1) := by decide +kernel
theorem dL_isSettledSo_50 : decode cL_isSettledSo 50 = .ok (.iload 4, 2) := by decide +kernel
theorem dL_isSettledSo_52 : decode cL_isSettledSo 52 = .ok (.invokevirtual 28, 3) := by decide +kernel
theorem dL_isSettledSo_55 : decode cL_isSettledSo 55 = .ok (.if_icmp .ne 7, 3) := by decide +kernel
theorem dL_isSettledSo_58 : decode cL_isSettledSo 58 = .ok (.iconst 1, 1) := by decide +kernel
theorem dL_isSettledSo_59 : decode cL_isSettledSo 59 = .ok (.goto 4, 3) := by decide +kernel
theorem dL_isSettledSo_62 : decode cL_isSettledSo 62 = .ok (.iconst 0, 1) := by decide +kernel
theorem dL_isSettledSo_63 : decode cL_isSettledSo 63 = .ok (.istore_n 2, 1) := by decide +kernel
theorem dL_isSettledSo_64 : decode cL_isSettledSo 64 = .ok (.iinc 3 (-1), 3) := by decide +kernel
theorem dL_isSettledSo_67 : decode cL_isSettledSo 67 = .ok (.goto (-61), 3) := by decide +kernel
theorem dL_isSettledSo_70 : decode cL_isSettledSo 70 = .ok (.iload_n 2, 1) := by decide +kernel
theorem dL_isSettledSo_71 : decode cL_isSettledSo 71 = .ok (.ifCond .eq 32, 3) := by decide +kernel
theorem dL_isSettledSo_74 : decode cL_isSettledSo 74 = .ok (.aload_n 0, 1) := by decide +kernel
theorem dL_isSettledSo_75 : decode cL_isSettledSo 75 = .ok (.invokestatic 102, 3) := by decide +kernel
theorem dL_isSettledSo_78 : decode cL_isSettledSo 78 = .ok (.ifCond .eq 25, 3) := by decide +kernel
theorem dL_isSettledSo_81 : decode cL_isSettledSo 81 = .ok (.iload_n 3, 1) := by decide +kernel
theorem dL_isSettledSo_82 : decode cL_isSettledSo 82 = .ok (.ifCond .eq 17, 3) := by decide +kernel
theorem dL_isSettledSo_85 : decode cL_isSettledSo 85 = .ok (.aload_n 0, 1) := by decide +kernel
theorem dL_isSettledSo_86 : decode cL_isSettledSo 86 = .ok (.iconst 0, 1) := by decide +kernel
theorem dL_isSettledSo_87 : decode cL_isSettledSo 87 = .ok (.invokevirtual 75, 3) := by decide +kernel
theorem dL_isSettledSo_90 : decode cL_isSettledSo 90 = .ok (.aload_n 0, 1) := by decide +kernel
theorem dL_isSettledSo_91 : decode cL_isSettledSo 91 = .ok (.iconst 1, 1) := by decide +kernel
theorem dL_isSettledSo_92 : decode cL_isSettledSo 92 = .ok (.invokevirtual 75, 3) := by decide +kernel
theorem dL_isSettledSo_95 : decode cL_isSettledSo 95 = .ok (.iadd, 1) := by decide +kernel
theorem dL_isSettledSo_96 : decode cL_isSettledSo 96 = .ok (.ifCond .ne 7, 3) := by decide +kernel
theorem dL_isSettledSo_99 : decode cL_isSettledSo 99 = .ok (.iconst 1, 1) := by decide +kernel
theorem dL_isSettledSo_100 : decode cL_isSettledSo 100 = .ok (.goto 4, 3) := by decide +kernel
theorem dL_isSettledSo_103 : decode cL_isSettledSo 103 = .ok (.iconst 0, 1) := by decide +kernel
theorem dL_isSettledSo_104 : decode cL_isSettledSo 104 = .ok (.ireturn, 1) := by decide +kernel
set_option maxRecDepth 20000 in
theorem ggL_law_X4_init : GoodIn wsL_law wsX4_init := goodIn_r _ [6, 7, 8, 9, 10, 11, 12, 13, 14, 15, 16, 17, 18, 19, 20, 21, 22, 23, 24, 25, 26, 27, 28, 29, 30, 31, 32, 33, 34, 35, 36, 37, 38, 575, 576, 577, 578, 579, 580, 581, 582, 572, 573, 574, 583, 584, 585, 586, 587, 588, 589, 590] (by decide +kernel) (by decide +kernel)
set_option maxRecDepth 20000 in
theorem gL_law_X4_init : GoodIn wsL_law (wsX4_init) := ggL_law_X4_init
set_option maxRecDepth 20000 in
theorem ggL_law_L_cell : GoodIn wsL_law wsL_cell := goodIn_r _ [42] (by decide +kernel) (by decide +kernel)
set_option maxRecDepth 20000 in
theorem gL_law_L_cell : GoodIn wsL_law (va_wsS RL 107 yL_cell wsL_cell) := goodIn_app (goodIn_of _ (by decide +kernel)) ggL_law_L_cell
set_option maxRecDepth 20000 in
theorem ggL_law_L_act : GoodIn wsL_law wsL_act := goodIn_ca (goodIn_ca (goodIn_ca (goodIn_r _ [45, 46, 47, 41, 48, 49, 50, 51, 52, 53, 54, 55, 3, 56, 57, 58, 2, 59, 60, 61, 62, 63, 64, 65, 66, 67, 68, 69, 70, 71, 72, 13, 14, 73, 74, 75, 21, 76, 77, 78, 79, 80, 81, 82, 83, 84, 85, 86, 87, 88, 89, 90, 91, 92, 93, 32, 94, 95, 96, 97, 15, 98, 99, 100, 101, 102, 103, 104, 25, 105, 106, 38, 107, 108, 109, 110, 111, 112, 113, 114, 115, 116, 117, 12, 118, 27, 119, 120, 121, 122, 123, 124, 125, 126, 127, 128, 129, 130, 131, 132, 133, 134, 135, 136, 137, 138, 139, 140, 141, 142, 143, 144, 145, 146, 147, 148, 149, 150, 151, 152, 153, 154, 155, 156, 157, 158, 159, 160, 161, 162, 163, 164, 165, 166, 167, 168, 169, 170, 171, 172, 173, 174, 175, 176, 177, 178, 179, 180, 181, 182, 183, 184, 185, 186, 187, 188, 189, 190, 191, 192, 193, 194, 195, 196, 197, 198, 199, 200, 201, 202, 203, 204, 205, 206, 207, 208, 209, 210, 211, 212, 213, 214, 215, 216, 217, 218, 219, 220, 34, 221, 222, 223, 224, 225, 226, 227, 228, 229, 230, 231, 232, 233, 234, 235, 236, 237, 238, 239, 240, 33, 241, 242, 243, 244, 245, 246, 247, 248, 249, 250, 251, 252, 253, 575, 576, 577, 578, 579, 580, 581, 582, 572, 573, 574, 583, 584, 585, 586, 587, 588, 589, 590] (by decide +kernel) (by decide +kernel)) (goodIn_sub (fun _ h => List.mem_append_left _ (List.mem_append_left _ (List.mem_append_right _ h))) (by decide +kernel))) (goodIn_sub (fun _ h => List.mem_append_left _ (List.mem_append_right _ h)) (by decide +kernel))) (goodIn_sub (fun _ h => List.mem_append_right _ h) (by decide +kernel))
set_option maxRecDepth 20000 in
theorem gL_law_L_act : GoodIn wsL_law (va_wsS RL 111 yL_act wsL_act) := goodIn_app (goodIn_of _ (by decide +kernel)) ggL_law_L_act
set_option maxRecDepth 20000 in
theorem ggL_law_L_areAlike : GoodIn wsL_law wsL_areAlike := goodIn_ca (goodIn_r _ [256, 250, 251, 252, 2, 253, 63, 64, 65, 66, 67, 68, 69, 70, 71, 72, 13, 14, 257, 258, 259, 260, 261, 262, 263, 264, 265, 266, 267, 268, 269, 270, 271, 272, 273, 274, 275, 276, 277, 278, 279, 280, 281, 282, 283, 284, 285, 286, 198, 287, 98, 99, 100, 101, 288, 289, 290, 21, 291, 292, 293, 136, 137, 138, 77, 139, 140, 141, 142, 32, 143, 144, 88, 145, 294, 186, 187, 295, 148, 149, 296, 297, 298, 299, 300, 218, 219, 220, 34, 146, 147, 301, 302, 41, 303, 53, 3, 304, 305, 306, 307, 308, 309, 310, 311, 312, 163, 164, 25, 165, 38, 313, 314, 315, 316, 317, 318, 319, 320, 321, 322, 323, 324, 325, 326, 327, 328, 329, 8, 9, 330, 331, 332, 333, 334, 335, 336, 337, 338, 339, 340, 341, 342, 178, 179, 343, 344, 345, 346, 347, 348, 349, 350, 351, 352, 353, 354, 355, 356, 357, 358, 359, 360, 361, 362, 363, 364, 365, 366, 367, 368, 369, 370, 371, 372, 197, 199, 373, 374, 375, 376, 377, 378, 379, 380, 381, 382, 383, 384, 385, 386, 387, 388, 389, 390, 391, 392, 393, 394, 395, 396, 397, 398, 399, 400, 401, 402, 403, 404, 405, 406, 407, 408, 409, 410, 411, 412, 413, 414, 415, 416, 417, 418, 419, 420, 421, 422, 423, 424, 425, 426, 427, 428, 429, 430, 431, 432, 433, 434, 435, 436, 437, 438, 439, 440, 441, 442, 443, 444, 445, 446, 447, 448, 449, 450, 451, 452, 453, 454, 455, 456, 457, 458, 459, 460, 461, 462, 463, 464, 465, 466, 467, 468, 469, 470, 471, 472, 473, 474, 475, 476, 477, 478, 479, 480, 481, 482, 483, 484, 485, 486, 487, 488, 489, 490, 491, 492, 493, 494, 495, 496, 497, 498, 499, 500, 501, 502, 503, 504, 505, 506, 507, 508, 509, 510, 511, 512, 513, 514, 515, 516, 517, 518, 519, 520, 521, 522, 523, 524, 525, 526, 527, 528, 529, 530, 531, 532, 533, 534, 535, 536, 537, 538, 575, 576, 577, 578, 579, 580, 581, 582, 572, 573, 574, 583, 584, 585, 586, 587, 588, 589, 590, 591, 592, 593, 594] (by decide +kernel) (by decide +kernel)) (goodIn_sub (fun _ h => List.mem_append_left _ (List.mem_append_right _ h)) (by decide +kernel))
set_option maxRecDepth 20000 in
theorem gL_law_L_areAlike : GoodIn wsL_law (va_wsS RL 115 yL_areAlike wsL_areAlike) := goodIn_app (goodIn_of _ (by decide +kernel)) ggL_law_L_areAlike
set_option maxRecDepth 20000 in
theorem ggL_law_L_areSidesSo : GoodIn wsL_law wsL_areSidesSo := goodIn_ca (goodIn_r _ [541, 3, 250, 251, 252, 2, 253, 63, 64, 65, 66, 67, 68, 69, 70, 71, 72, 13, 14, 257, 258, 259, 260, 261, 262, 263, 264, 269, 270, 271, 272, 281, 282, 283, 284, 285, 286, 198, 287, 98, 99, 100, 101, 288, 289, 290, 21, 291, 292, 293, 136, 137, 138, 77, 139, 140, 141, 142, 32, 143, 144, 88, 145, 294, 186, 187, 295, 148, 149, 296, 297, 298, 299, 300, 218, 219, 220, 34, 146, 147, 273, 274, 275, 276, 277, 278, 279, 280, 265, 266, 267, 268, 532, 533, 41, 534, 53, 535, 536, 537, 538, 575, 576, 577, 578, 579, 580, 581, 582, 572, 573, 574, 583, 584, 585, 586, 587, 588, 589, 590] (by decide +kernel) (by decide +kernel)) (goodIn_sub (fun _ h => List.mem_append_left _ (List.mem_append_right _ h)) (by decide +kernel))
set_option maxRecDepth 20000 in
theorem gL_law_L_areSidesSo : GoodIn wsL_law (va_wsS RL 102 yL_areSidesSo wsL_areSidesSo) := goodIn_app (goodIn_of _ (by decide +kernel)) ggL_law_L_areSidesSo
set_option maxRecDepth 20000 in
theorem ggL_law_L_areTextsSo : GoodIn wsL_law wsL_areTextsSo := goodIn_ca (goodIn_r _ [544, 3, 269, 270, 271, 2, 272, 63, 64, 65, 66, 67, 68, 69, 70, 71, 72, 13, 14, 301, 302, 41, 303, 53, 304, 305, 306, 307, 308, 309, 310, 311, 312, 163, 164, 25, 165, 38, 313, 314, 88, 315, 316, 317, 318, 319, 320, 321, 144, 145, 322, 323, 324, 325, 326, 327, 328, 329, 8, 9, 330, 331, 332, 333, 334, 335, 336, 337, 338, 339, 340, 341, 342, 178, 179, 343, 344, 345, 346, 347, 348, 349, 350, 351, 352, 353, 354, 355, 356, 357, 358, 359, 360, 361, 362, 363, 364, 365, 366, 367, 368, 369, 370, 371, 372, 197, 198, 199, 373, 374, 375, 376, 377, 378, 379, 380, 381, 382, 383, 384, 385, 386, 387, 286, 287, 388, 389, 390, 391, 392, 393, 394, 395, 396, 397, 398, 399, 400, 401, 402, 403, 404, 405, 406, 407, 408, 409, 410, 411, 412, 413, 414, 415, 416, 417, 418, 419, 420, 421, 422, 423, 424, 425, 426, 427, 428, 429, 430, 431, 432, 433, 434, 435, 436, 437, 438, 439, 440, 441, 442, 443, 444, 445, 446, 447, 448, 449, 450, 451, 452, 453, 454, 455, 456, 457, 458, 459, 460, 461, 462, 463, 464, 465, 466, 467, 468, 469, 470, 471, 472, 473, 474, 475, 476, 477, 478, 479, 480, 481, 482, 483, 484, 485, 486, 487, 488, 489, 490, 491, 492, 493, 494, 495, 496, 497, 498, 499, 500, 501, 502, 503, 504, 505, 506, 507, 508, 509, 510, 511, 512, 513, 514, 515, 516, 517, 518, 519, 520, 521, 522, 148, 149, 523, 186, 187, 524, 525, 526, 527, 528, 529, 530, 531, 545, 546, 547, 548, 549, 550, 551, 552, 553, 554, 555, 556, 557, 558, 559, 560, 561, 562, 563, 564, 565, 566, 567, 568, 177, 257, 258, 259, 260, 575, 576, 577, 578, 579, 580, 581, 582, 589, 590, 572, 573, 574, 591, 592, 593, 594, 583, 584, 585, 586, 587, 588] (by decide +kernel) (by decide +kernel)) (goodIn_sub (fun _ h => List.mem_append_left _ (List.mem_append_right _ h)) (by decide +kernel))
set_option maxRecDepth 20000 in
theorem gL_law_L_areTextsSo : GoodIn wsL_law (va_wsS RL 119 yL_areTextsSo wsL_areTextsSo) := goodIn_app (goodIn_of _ (by decide +kernel)) ggL_law_L_areTextsSo
set_option maxRecDepth 20000 in
theorem ggL_law_L_isSettledSo : GoodIn wsL_law wsL_isSettledSo := goodIn_ca (goodIn_ca (goodIn_r _ [571, 269, 270, 271, 2, 272, 63, 64, 65, 66, 67, 68, 69, 70, 71, 72, 13, 14, 150, 151, 152, 153, 15, 154, 155, 156, 157, 60, 61, 158, 159, 160, 25, 161, 106, 38, 162, 163, 164, 165, 166, 167, 168, 12, 169, 170, 171, 172, 173, 174, 175, 176, 144, 88, 145, 177, 178, 179, 180, 181, 182, 183, 184, 185, 186, 187, 115, 116, 117, 118, 27, 119, 147, 148, 149, 188, 189, 190, 191, 62, 82, 83, 84, 85, 73, 74, 75, 21, 76, 77, 86, 87, 89, 90, 91, 92, 93, 32, 94, 95, 96, 97, 98, 99, 100, 101, 102, 103, 104, 105, 192, 193, 194, 195, 196, 197, 198, 199, 135, 136, 137, 138, 139, 140, 141, 142, 143, 200, 201, 202, 203, 146, 204, 205, 206, 207, 208, 209, 210, 211, 134, 212, 213, 214, 215, 216, 217, 218, 219, 220, 34, 221, 222, 223, 224, 225, 226, 227, 228, 539, 540, 41, 541, 3, 250, 251, 252, 253, 257, 258, 259, 260, 261, 262, 263, 264, 281, 282, 283, 284, 285, 286, 287, 288, 289, 290, 291, 292, 293, 294, 295, 296, 297, 298, 299, 300, 273, 274, 275, 276, 277, 278, 279, 280, 265, 266, 267, 268, 532, 533, 534, 53, 535, 536, 537, 538, 575, 576, 577, 578, 579, 580, 581, 582, 589, 590, 572, 573, 574, 583, 584, 585, 586, 587, 588] (by decide +kernel) (by decide +kernel)) (goodIn_sub (fun _ h => List.mem_append_left _ (List.mem_append_right _ h)) (by decide +kernel))) (goodIn_sub (fun _ h => List.mem_append_left _ (List.mem_append_left _ (List.mem_append_right _ h))) (by decide +kernel))
set_option maxRecDepth 20000 in
theorem gL_law_L_isSettledSo : GoodIn wsL_law (va_wsS RL 123 yL_isSettledSo wsL_isSettledSo) := goodIn_app (goodIn_of _ (by decide +kernel)) ggL_law_L_isSettledSo
theorem dL_law_0 : decode cL_law 0 = .ok (.new 9, 3) := by decide +kernel
theorem dL_law_3 : decode cL_law 3 = .ok (.dup, 1) := by decide +kernel
theorem dL_law_4 : decode cL_law 4 = .ok (.invokespecial 106, 3) := by decide +kernel
theorem dL_law_7 : decode cL_law 7 = .ok (.astore_n 1, 1) := by decide +kernel
theorem dL_law_8 : decode cL_law 8 = .ok (.new 9, 3) := by decide +kernel
theorem dL_law_11 : decode cL_law 11 = .ok (.dup, 1) := by decide +kernel
theorem dL_law_12 : decode cL_law 12 = .ok (.invokespecial 106, 3) := by decide +kernel
theorem dL_law_15 : decode cL_law 15 = .ok (.astore_n 2, 1) := by decide +kernel
theorem dL_law_16 : decode cL_law 16 = .ok (.iconst 0, 1) := by decide +kernel
theorem dL_law_17 : decode cL_law 17 = .ok (.istore_n 3, 1) := by decide +kernel
theorem dL_law_18 : decode cL_law 18 = .ok (.iload_n 3, 1) := by decide +kernel
theorem dL_law_19 : decode cL_law 19 = .ok (.bipush 120, 2) := by decide +kernel
theorem dL_law_21 : decode cL_law 21 = .ok (.if_icmp .ge 119, 3) := by decide +kernel
theorem dL_law_24 : decode cL_law 24 = .ok (.aload_n 0, 1) := by decide +kernel
theorem dL_law_25 : decode cL_law 25 = .ok (.iload_n 3, 1) := by decide +kernel
theorem dL_law_26 : decode cL_law 26 = .ok (.bipush 61, 2) := by decide +kernel
theorem dL_law_28 : decode cL_law 28 = .ok (.irem, 1) := by decide +kernel
theorem dL_law_29 : decode cL_law 29 = .ok (.invokestatic 107, 3) := by decide +kernel
theorem dL_law_32 : decode cL_law 32 = .ok (.sipush 1013, 3) := by decide +kernel
theorem dL_law_35 : decode cL_law 35 = .ok (.iload_n 3, 1) := by decide +kernel
theorem dL_law_36 : decode cL_law 36 = .ok (.bipush 61, 2) := by decide +kernel
theorem dL_law_38 : decode cL_law 38 = .ok (.idiv, 1) := by decide +kernel
theorem dL_law_39 : decode cL_law 39 = .ok (.imul, 1) := by decide +kernel
theorem dL_law_40 : decode cL_law 40 = .ok (.iadd, 1) := by decide +kernel
theorem dL_law_41 : decode cL_law 41 = .ok (.istore 4, 2) := by decide +kernel
theorem dL_law_43 : decode cL_law 43 = .ok (.aload_n 1, 1) := by decide +kernel
theorem dL_law_44 : decode cL_law 44 = .ok (.iload 4, 2) := by decide +kernel
theorem dL_law_46 : decode cL_law 46 = .ok (.invokestatic 111, 3) := by decide +kernel
theorem dL_law_49 : decode cL_law 49 = .ok (.istore 5, 2) := by decide +kernel
theorem dL_law_51 : decode cL_law 51 = .ok (.iload 5, 2) := by decide +kernel
theorem dL_law_53 : decode cL_law 53 = .ok (.ldc 43, 2) := by decide +kernel
theorem dL_law_55 : decode cL_law 55 = .ok (.if_icmp .eq 14, 3) := by decide +kernel
theorem dL_law_58 : decode cL_law 58 = .ok (.aload_n 2, 1) := by decide +kernel
theorem dL_law_59 : decode cL_law 59 = .ok (.iload 4, 2) := by decide +kernel
theorem dL_law_61 : decode cL_law 61 = .ok (.invokestatic 111, 3) := by decide +kernel
theorem dL_law_64 : decode cL_law 64 = .ok (.iload 5, 2) := by decide +kernel
theorem dL_law_66 : decode cL_law 66 = .ok (.if_icmp .ne 47, 3) := by decide +kernel
theorem dL_law_69 : decode cL_law 69 = .ok (.iload_n 3, 1) := by decide +kernel
theorem dL_law_70 : decode cL_law 70 = .ok (.bipush 6, 2) := by decide +kernel
theorem dL_law_72 : decode cL_law 72 = .ok (.irem, 1) := by decide +kernel
theorem dL_law_73 : decode cL_law 73 = .ok (.iconst 3, 1) := by decide +kernel
theorem dL_law_74 : decode cL_law 74 = .ok (.if_icmp .ne 11, 3) := by decide +kernel
theorem dL_law_77 : decode cL_law 77 = .ok (.aload_n 1, 1) := by decide +kernel
theorem dL_law_78 : decode cL_law 78 = .ok (.aload_n 2, 1) := by decide +kernel
theorem dL_law_79 : decode cL_law 79 = .ok (.invokestatic 115, 3) := by decide +kernel
theorem dL_law_82 : decode cL_law 82 = .ok (.ifCond .eq 31, 3) := by decide +kernel
theorem dL_law_85 : decode cL_law 85 = .ok (.aload_n 1, 1) := by decide +kernel
theorem dL_law_86 : decode cL_law 86 = .ok (.invokestatic 102, 3) := by decide +kernel
theorem dL_law_89 : decode cL_law 89 = .ok (.ifCond .eq 24, 3) := by decide +kernel
theorem dL_law_92 : decode cL_law 92 = .ok (.iload_n 3, 1) := by decide +kernel
theorem dL_law_93 : decode cL_law 93 = .ok (.iconst 5, 1) := by decide +kernel
theorem dL_law_94 : decode cL_law 94 = .ok (.irem, 1) := by decide +kernel
theorem dL_law_95 : decode cL_law 95 = .ok (.iconst 2, 1) := by decide +kernel
theorem dL_law_96 : decode cL_law 96 = .ok (.if_icmp .ne 19, 3) := by decide +kernel
theorem dL_law_99 : decode cL_law 99 = .ok (.aload_n 1, 1) := by decide +kernel
theorem dL_law_100 : decode cL_law 100 = .ok (.iload 4, 2) := by decide +kernel
theorem dL_law_102 : decode cL_law 102 = .ok (.bipush 6, 2) := by decide +kernel
theorem dL_law_104 : decode cL_law 104 = .ok (.ishr, 1) := by decide +kernel
theorem dL_law_105 : decode cL_law 105 = .ok (.iconst 1, 1) := by decide +kernel
theorem dL_law_106 : decode cL_law 106 = .ok (.iand, 1) := by decide +kernel
theorem dL_law_107 : decode cL_law 107 = .ok (.invokestatic 119, 3) := by decide +kernel
theorem dL_law_110 : decode cL_law 110 = .ok (.ifCond .ne 5, 3) := by decide +kernel
theorem dL_law_113 : decode cL_law 113 = .ok (.iconst 0, 1) := by decide +kernel
theorem dL_law_114 : decode cL_law 114 = .ok (.ireturn, 1) := by decide +kernel
theorem dL_law_115 : decode cL_law 115 = .ok (.iload_n 3, 1) := by decide +kernel
theorem dL_law_116 : decode cL_law 116 = .ok (.bipush 40, 2) := by decide +kernel
theorem dL_law_118 : decode cL_law 118 = .ok (.irem, 1) := by decide +kernel
theorem dL_law_119 : decode cL_law 119 = .ok (.bipush 31, 2) := by decide +kernel
theorem dL_law_121 : decode cL_law 121 = .ok (.if_icmp .ne 13, 3) := by decide +kernel
theorem dL_law_124 : decode cL_law 124 = .ok (.aload_n 1, 1) := by decide +kernel
theorem dL_law_125 : decode cL_law 125 = .ok (.aload_n 2, 1) := by decide +kernel
theorem dL_law_126 : decode cL_law 126 = .ok (.invokestatic 123, 3) := by decide +kernel
theorem dL_law_129 : decode cL_law 129 = .ok (.ifCond .ne 5, 3) := by decide +kernel
theorem dL_law_132 : decode cL_law 132 = .ok (.iconst 0, 1) := by decide +kernel
theorem dL_law_133 : decode cL_law 133 = .ok (.ireturn, 1) := by decide +kernel
theorem dL_law_134 : decode cL_law 134 = .ok (.iinc 3 1, 3) := by decide +kernel
theorem dL_law_137 : decode cL_law 137 = .ok (.goto (-119), 3) := by decide +kernel
theorem dL_law_140 : decode cL_law 140 = .ok (.aload_n 1, 1) := by decide +kernel
theorem dL_law_141 : decode cL_law 141 = .ok (.aload_n 2, 1) := by decide +kernel
theorem dL_law_142 : decode cL_law 142 = .ok (.invokestatic 115, 3) := by decide +kernel
theorem dL_law_145 : decode cL_law 145 = .ok (.ifCond .eq 23, 3) := by decide +kernel
theorem dL_law_148 : decode cL_law 148 = .ok (.aload_n 1, 1) := by decide +kernel
theorem dL_law_149 : decode cL_law 149 = .ok (.iconst 0, 1) := by decide +kernel
theorem dL_law_150 : decode cL_law 150 = .ok (.invokestatic 119, 3) := by decide +kernel
theorem dL_law_153 : decode cL_law 153 = .ok (.ifCond .eq 15, 3) := by decide +kernel
theorem dL_law_156 : decode cL_law 156 = .ok (.aload_n 1, 1) := by decide +kernel
theorem dL_law_157 : decode cL_law 157 = .ok (.iconst 1, 1) := by decide +kernel
theorem dL_law_158 : decode cL_law 158 = .ok (.invokestatic 119, 3) := by decide +kernel
theorem dL_law_161 : decode cL_law 161 = .ok (.ifCond .eq 7, 3) := by decide +kernel
theorem dL_law_164 : decode cL_law 164 = .ok (.iconst 1, 1) := by decide +kernel
theorem dL_law_165 : decode cL_law 165 = .ok (.goto 4, 3) := by decide +kernel
theorem dL_law_168 : decode cL_law 168 = .ok (.iconst 0, 1) := by decide +kernel
theorem dL_law_169 : decode cL_law 169 = .ok (.ireturn, 1) := by decide +kernel
abbrev vwCl : List vw_C := [(RJ4, TJ4, 4), (RX1, TX1, 8), (RX2, TX2, 6), (RX3, TX3, 2), (RX4, TX4, 3)]
