theorem dX0_numberOf_1 : decode cX0_numberOf 1 = .ok (.sipush 255, 3) := by decide +kernel
theorem dX0_numberOf_4 : decode cX0_numberOf 4 = .ok (.iand, 1) := by decide +kernel
theorem dX0_numberOf_5 : decode cX0_numberOf 5 = .ok (.ireturn, 1) := by decide +kernel
theorem dX0_kindOf_0 : decode cX0_kindOf 0 = .ok (.iload_n 0, 1) := by decide +kernel
theorem dX0_kindOf_1 : decode cX0_kindOf 1 = .ok (.bipush 8, 2) := by decide +kernel
theorem dX0_kindOf_3 : decode cX0_kindOf 3 = .ok (.ishr, 1) := by decide +kernel
theorem dX0_kindOf_4 : decode cX0_kindOf 4 = .ok (.bipush 7, 2) := by decide +kernel
theorem dX0_kindOf_6 : decode cX0_kindOf 6 = .ok (.iand, 1) := by decide +kernel
theorem dX0_kindOf_7 : decode cX0_kindOf 7 = .ok (.ireturn, 1) := by decide +kernel
theorem dX0_toldBy_0 : decode cX0_toldBy 0 = .ok (.iload_n 0, 1) := by decide +kernel
theorem dX0_toldBy_1 : decode cX0_toldBy 1 = .ok (.bipush 11, 2) := by decide +kernel
theorem dX0_toldBy_3 : decode cX0_toldBy 3 = .ok (.ishr, 1) := by decide +kernel
theorem dX0_toldBy_4 : decode cX0_toldBy 4 = .ok (.sipush 1023, 3) := by decide +kernel
theorem dX0_toldBy_7 : decode cX0_toldBy 7 = .ok (.iand, 1) := by decide +kernel
theorem dX0_toldBy_8 : decode cX0_toldBy 8 = .ok (.ireturn, 1) := by decide +kernel
theorem dX0_isMarked_0 : decode cX0_isMarked 0 = .ok (.iload_n 0, 1) := by decide +kernel
theorem dX0_isMarked_1 : decode cX0_isMarked 1 = .ok (.iload_n 1, 1) := by decide +kernel
theorem dX0_isMarked_2 : decode cX0_isMarked 2 = .ok (.iand, 1) := by decide +kernel
theorem dX0_isMarked_3 : decode cX0_isMarked 3 = .ok (.ifCond .eq 7, 3) := by decide +kernel
theorem dX0_isMarked_6 : decode cX0_isMarked 6 = .ok (.iconst 1, 1) := by decide +kernel
theorem dX0_isMarked_7 : decode cX0_isMarked 7 = .ok (.goto 4, 3) := by decide +kernel
theorem dX0_isMarked_10 : decode cX0_isMarked 10 = .ok (.iconst 0, 1) := by decide +kernel
theorem dX0_isMarked_11 : decode cX0_isMarked 11 = .ok (.ireturn, 1) := by decide +kernel
set_option maxRecDepth 20000 in
theorem ggX0_textOf_X0_kindOf : GoodIn wsX0_textOf wsX0_kindOf := goodIn_r _ [9] (by decide +kernel) (by decide +kernel)
set_option maxRecDepth 20000 in
theorem gX0_textOf_X0_kindOf : GoodIn wsX0_textOf (va_wsS RX0 11 yX0_kindOf wsX0_kindOf) := goodIn_app (goodIn_of _ (by decide +kernel)) ggX0_textOf_X0_kindOf
set_option maxRecDepth 20000 in
theorem ggX0_textOf_J4_init_da8c8 : GoodIn wsX0_textOf wsJ4_init_da8c8 := goodIn_r _ [12, 13, 14, 15, 16, 17, 18, 19, 20, 21, 22, 23, 24, 25, 26, 27, 28, 29, 30, 31, 225, 226, 227, 228] (by decide +kernel) (by decide +kernel)
set_option maxRecDepth 20000 in
theorem gX0_textOf_J4_init_da8c8 : GoodIn wsX0_textOf (wsJ4_init_da8c8) := ggX0_textOf_J4_init_da8c8
set_option maxRecDepth 20000 in
theorem ggX0_textOf_X0_numberOf : GoodIn wsX0_textOf wsX0_numberOf := goodIn_r _ [34] (by decide +kernel) (by decide +kernel)
set_option maxRecDepth 20000 in
theorem gX0_textOf_X0_numberOf : GoodIn wsX0_textOf (va_wsS RX0 18 yX0_numberOf wsX0_numberOf) := goodIn_app (goodIn_of _ (by decide +kernel)) ggX0_textOf_X0_numberOf
set_option maxRecDepth 20000 in
theorem ggX0_textOf_J4_append_bf812 : GoodIn wsX0_textOf wsJ4_append_bf812 := goodIn_r _ [38, 39, 40, 41, 42, 15, 43, 44, 22, 45, 46, 47, 48, 49, 50, 51, 52, 53, 23, 54, 55, 56, 57, 58, 59, 60, 61, 62, 63, 64, 65, 66, 67, 68, 69, 70, 71, 72, 73, 74, 75, 76, 77, 78, 79, 80, 81, 21, 82, 83, 84, 85, 86, 87, 88, 89, 90, 91, 92, 93, 20, 94, 95, 96, 97, 98, 99, 100, 26, 101, 102, 103, 104, 105, 106, 107, 108, 109, 110, 111, 112, 113, 114, 115, 116, 117, 118, 119, 120, 121, 122, 123, 124, 125, 126, 127, 225, 226, 227, 228] (by decide +kernel) (by decide +kernel)
set_option maxRecDepth 20000 in
theorem gX0_textOf_J4_append_bf812 : GoodIn wsX0_textOf (wsV RX0 21 RJ4 yJ4_append_bf812 wsJ4_append_bf812) := goodIn_app (goodIn_of _ (by decide +kernel)) ggX0_textOf_J4_append_bf812
set_option maxRecDepth 20000 in
theorem ggX0_textOf_J4_append_cf468 : GoodIn wsX0_textOf wsJ4_append_cf468 := goodIn_r _ [131, 132, 133, 41, 134, 15, 135, 44, 22, 49, 50, 51, 52, 53, 23, 54, 55, 56, 57, 58, 59, 60, 61, 62, 63, 64, 65, 66, 67, 68, 69, 70, 71, 72, 73, 74, 75, 76, 77, 78, 79, 80, 81, 21, 82, 83, 84, 85, 86, 87, 88, 89, 90, 91, 92, 93, 20, 136, 137, 138, 139, 140, 141, 142, 143, 144, 24, 25, 26, 27, 28, 29, 30, 31, 145, 146, 147, 148, 149, 150, 151, 152, 153, 106, 107, 108, 154, 155, 111, 156, 113, 157, 158, 116, 159, 123, 124, 125, 102, 126, 127, 160, 161, 162, 163, 164, 165, 166, 167, 168, 169, 170, 171, 225, 226, 227, 228] (by decide +kernel) (by decide +kernel)
set_option maxRecDepth 20000 in
theorem gX0_textOf_J4_append_cf468 : GoodIn wsX0_textOf (wsV RX0 25 RJ4 yJ4_append_cf468 wsJ4_append_cf468) := goodIn_app (goodIn_of _ (by decide +kernel)) ggX0_textOf_J4_append_cf468
set_option maxRecDepth 20000 in
theorem ggX0_textOf_X0_nameOf : GoodIn wsX0_textOf wsX0_nameOf := goodIn_r _ [174] (by decide +kernel) (by decide +kernel)
set_option maxRecDepth 20000 in
theorem gX0_textOf_X0_nameOf : GoodIn wsX0_textOf (va_wsS RX0 28 yX0_nameOf wsX0_nameOf) := goodIn_app (goodIn_of _ (by decide +kernel)) ggX0_textOf_X0_nameOf
set_option maxRecDepth 20000 in
theorem ggX0_textOf_J4_append_15ec4 : GoodIn wsX0_textOf wsJ4_append_15ec4 := goodIn_r _ [178, 179, 180, 41, 181, 15, 182, 44, 183, 184, 185, 186, 187, 22, 49, 50, 51, 52, 53, 23, 54, 55, 56, 57, 58, 59, 60, 61, 62, 63, 64, 65, 66, 67, 68, 69, 70, 71, 72, 73, 74, 75, 76, 77, 78, 79, 80, 81, 21, 82, 83, 84, 85, 86, 87, 88, 89, 90, 91, 92, 93, 20, 188, 189, 26, 190, 102, 103, 104, 105, 106, 107, 108, 109, 110, 111, 112, 113, 114, 115, 116, 117, 123, 124, 125, 126, 127, 191, 192, 193, 194, 195, 196, 197, 198, 199, 200, 201, 202, 203, 204, 205, 206, 207, 208, 209, 210, 211, 212, 140, 141, 142, 143, 144, 24, 25, 27, 28, 29, 30, 31, 145, 146, 138, 147, 148, 149, 150, 151, 152, 153, 154, 155, 156, 157, 158, 159, 213, 214, 215, 216, 217, 218, 225, 226, 227, 228] (by decide +kernel) (by decide +kernel)
set_option maxRecDepth 20000 in
theorem gX0_textOf_J4_append_15ec4 : GoodIn wsX0_textOf (wsV RX0 32 RJ4 yJ4_append_15ec4 wsJ4_append_15ec4) := goodIn_app (goodIn_of _ (by decide +kernel)) ggX0_textOf_J4_append_15ec4
set_option maxRecDepth 20000 in
theorem ggX0_textOf_X0_toldBy : GoodIn wsX0_textOf wsX0_toldBy := goodIn_r _ [221] (by decide +kernel) (by decide +kernel)
set_option maxRecDepth 20000 in
theorem gX0_textOf_X0_toldBy : GoodIn wsX0_textOf (va_wsS RX0 35 yX0_toldBy wsX0_toldBy) := goodIn_app (goodIn_of _ (by decide +kernel)) ggX0_textOf_X0_toldBy
set_option maxRecDepth 20000 in
theorem ggX0_textOf_X0_isMarked : GoodIn wsX0_textOf wsX0_isMarked := goodIn_r _ [224] (by decide +kernel) (by decide +kernel)
set_option maxRecDepth 20000 in
theorem gX0_textOf_X0_isMarked : GoodIn wsX0_textOf (va_wsS RX0 39 yX0_isMarked wsX0_isMarked) := goodIn_app (goodIn_of _ (by decide +kernel)) ggX0_textOf_X0_isMarked
theorem dX0_textOf_0 : decode cX0_textOf 0 = .ok (.iload_n 0, 1) := by decide +kernel
theorem dX0_textOf_1 : decode cX0_textOf 1 = .ok (.invokestatic 11, 3) := by decide +kernel
theorem dX0_textOf_4 : decode cX0_textOf 4 = .ok (.istore_n 1, 1) := by decide +kernel
theorem dX0_textOf_5 : decode cX0_textOf 5 = .ok (.new 15, 3) := by decide +kernel
theorem dX0_textOf_8 : decode cX0_textOf 8 = .ok (.dup, 1) := by decide +kernel
theorem dX0_textOf_9 : decode cX0_textOf 9 = .ok (.invokespecial 17, 3) := by decide +kernel
theorem dX0_textOf_12 : decode cX0_textOf 12 = .ok (.astore_n 2, 1) := by decide +kernel
theorem dX0_textOf_13 : decode cX0_textOf 13 = .ok (.aload_n 2, 1) := by decide +kernel
theorem dX0_textOf_14 : decode cX0_textOf 14 = .ok (.iload_n 0, 1) := by decide +kernel
theorem dX0_textOf_15 : decode cX0_textOf 15 = .ok (.invokestatic 18, 3) := by decide +kernel
theorem dX0_textOf_18 : decode cX0_textOf 18 = .ok (.invokevirtual 21, 3) := by decide +kernel
theorem dX0_textOf_21 : decode cX0_textOf 21 = .ok (.bipush 32, 2) := by decide +kernel
theorem dX0_textOf_23 : decode cX0_textOf 23 = .ok (.invokevirtual 25, 3) := by decide +kernel
theorem dX0_textOf_26 : decode cX0_textOf 26 = .ok (.iload_n 1, 1) := by decide +kernel
theorem dX0_textOf_27 : decode cX0_textOf 27 = .ok (.invokestatic 28, 3) := by decide +kernel
theorem dX0_textOf_30 : decode cX0_textOf 30 = .ok (.invokevirtual 32, 3) := by decide +kernel
theorem dX0_textOf_33 : decode cX0_textOf 33 = .ok (.pop, 1) := by decide +kernel
theorem dX0_textOf_34 : decode cX0_textOf 34 = .ok (.iload_n 1, 1) := by decide +kernel
theorem dX0_textOf_35 : decode cX0_textOf 35 = .ok (.iconst 3, 1) := by decide +kernel
theorem dX0_textOf_36 : decode cX0_textOf 36 = .ok (.if_icmp .eq 13, 3) := by decide +kernel
theorem dX0_textOf_39 : decode cX0_textOf 39 = .ok (.iload_n 1, 1) := by decide +kernel
theorem dX0_textOf_40 : decode cX0_textOf 40 = .ok (.iconst 4, 1) := by decide +kernel
theorem dX0_textOf_41 : decode cX0_textOf 41 = .ok (.if_icmp .eq 8, 3) := by decide +kernel
theorem dX0_textOf_44 : decode cX0_textOf 44 = .ok (.iload_n 1, 1) := by decide +kernel
theorem dX0_textOf_45 : decode cX0_textOf 45 = .ok (.iconst 5, 1) := by decide +kernel
theorem dX0_textOf_46 : decode cX0_textOf 46 = .ok (.if_icmp .ne 17, 3) := by decide +kernel
theorem dX0_textOf_49 : decode cX0_textOf 49 = .ok (.aload_n 2, 1) := by decide +kernel
theorem dX0_textOf_50 : decode cX0_textOf 50 = .ok (.bipush 32, 2) := by decide +kernel
theorem dX0_textOf_52 : decode cX0_textOf 52 = .ok (.invokevirtual 25, 3) := by decide +kernel
theorem dX0_textOf_55 : decode cX0_textOf 55 = .ok (.iload_n 0, 1) := by decide +kernel
theorem dX0_textOf_56 : decode cX0_textOf 56 = .ok (.invokestatic 35, 3) := by decide +kernel
theorem dX0_textOf_59 : decode cX0_textOf 59 = .ok (.invokevirtual 21, 3) := by decide +kernel
theorem dX0_textOf_62 : decode cX0_textOf 62 = .ok (.pop, 1) := by decide +kernel
theorem dX0_textOf_63 : decode cX0_textOf 63 = .ok (.iload_n 0, 1) := by decide +kernel
theorem dX0_textOf_64 : decode cX0_textOf 64 = .ok (.ldc 38, 2) := by decide +kernel
theorem dX0_textOf_66 : decode cX0_textOf 66 = .ok (.invokestatic 39, 3) := by decide +kernel
theorem dX0_textOf_69 : decode cX0_textOf 69 = .ok (.ifCond .eq 10, 3) := by decide +kernel
theorem dX0_textOf_72 : decode cX0_textOf 72 = .ok (.aload_n 2, 1) := by decide +kernel
theorem dX0_textOf_73 : decode cX0_textOf 73 = .ok (.ldc 43, 2) := by decide +kernel
theorem dX0_textOf_75 : decode cX0_textOf 75 = .ok (.invokevirtual 32, 3) := by decide +kernel
theorem dX0_textOf_78 : decode cX0_textOf 78 = .ok (.pop, 1) := by decide +kernel
theorem dX0_textOf_79 : decode cX0_textOf 79 = .ok (.iload_n 0, 1) := by decide +kernel
theorem dX0_textOf_80 : decode cX0_textOf 80 = .ok (.ldc 45, 2) := by decide +kernel
theorem dX0_textOf_82 : decode cX0_textOf 82 = .ok (.invokestatic 39, 3) := by decide +kernel
theorem dX0_textOf_85 : decode cX0_textOf 85 = .ok (.ifCond .eq 10, 3) := by decide +kernel
theorem dX0_textOf_88 : decode cX0_textOf 88 = .ok (.aload_n 2, 1) := by decide +kernel
theorem dX0_textOf_89 : decode cX0_textOf 89 = .ok (.ldc 46, 2) := by decide +kernel
theorem dX0_textOf_91 : decode cX0_textOf 91 = .ok (.invokevirtual 32, 3) := by decide +kernel
theorem dX0_textOf_94 : decode cX0_textOf 94 = .ok (.pop, 1) := by decide +kernel
theorem dX0_textOf_95 : decode cX0_textOf 95 = .ok (.aload_n 2, 1) := by decide +kernel
theorem dX0_textOf_96 : decode cX0_textOf 96 = .ok (.areturn, 1) := by decide +kernel
theorem dX0_nameOf_0 : decode cX0_nameOf 0 = .ok (.iload_n 0, 1) := by decide +kernel
theorem dX0_nameOf_1 : decode cX0_nameOf 1 = .ok (.tableswitch 57 0 5 #[39, 42, 45, 48, 51, 54], 39) := by decide +kernel
theorem dX0_nameOf_40 : decode cX0_nameOf 40 = .ok (.ldc 48, 2) := by decide +kernel
theorem dX0_nameOf_42 : decode cX0_nameOf 42 = .ok (.areturn, 1) := by decide +kernel
theorem dX0_nameOf_43 : decode cX0_nameOf 43 = .ok (.ldc 50, 2) := by decide +kernel
theorem dX0_nameOf_45 : decode cX0_nameOf 45 = .ok (.areturn, 1) := by decide +kernel
theorem dX0_nameOf_46 : decode cX0_nameOf 46 = .ok (.ldc 52, 2) := by decide +kernel
theorem dX0_nameOf_48 : decode cX0_nameOf 48 = .ok (.areturn, 1) := by decide +kernel
theorem dX0_nameOf_49 : decode cX0_nameOf 49 = .ok (.ldc 54, 2) := by decide +kernel
theorem dX0_nameOf_51 : decode cX0_nameOf 51 = .ok (.areturn, 1) := by decide +kernel
theorem dX0_nameOf_52 : decode cX0_nameOf 52 = .ok (.ldc 56, 2) := by decide +kernel
theorem dX0_nameOf_54 : decode cX0_nameOf 54 = .ok (.areturn, 1) := by decide +kernel
theorem dX0_nameOf_55 : decode cX0_nameOf 55 = .ok (.ldc 58, 2) := by decide +kernel
theorem dX0_nameOf_57 : decode cX0_nameOf 57 = .ok (.areturn, 1) := by decide +kernel
theorem dX0_nameOf_58 : decode cX0_nameOf 58 = .ok (.ldc 60, 2) := by decide +kernel
theorem dX0_nameOf_60 : decode cX0_nameOf 60 = .ok (.areturn, 1) := by decide +kernel
set_option maxRecDepth 20000 in
theorem ggX1_init_X2_init : GoodIn wsX1_init wsX2_init := goodIn_r _ [14, 15, 2, 3, 16, 17, 18, 19, 24, 25, 26, 27, 28, 29] (by decide +kernel) (by decide +kernel)
set_option maxRecDepth 20000 in
theorem gX1_init_X2_init_n11 : GoodIn wsX1_init (wsX2_init) := ggX1_init_X2_init
set_option maxRecDepth 20000 in
theorem ggX1_init_X3_init : GoodIn wsX1_init wsX3_init := goodIn_r _ [21, 22, 2, 3, 16, 23, 38, 39] (by decide +kernel) (by decide +kernel)
set_option maxRecDepth 20000 in
theorem gX1_init_X3_init_n20 : GoodIn wsX1_init (wsX3_init) := ggX1_init_X3_init
theorem dX1_init_0 : decode cX1_init 0 = .ok (.aload_n 0, 1) := by decide +kernel
theorem dX1_init_1 : decode cX1_init 1 = .ok (.invokespecial 3, 3) := by decide +kernel
theorem dX1_init_4 : decode cX1_init 4 = .ok (.aload_n 0, 1) := by decide +kernel
theorem dX1_init_5 : decode cX1_init 5 = .ok (.new 9, 3) := by decide +kernel
theorem dX1_init_8 : decode cX1_init 8 = .ok (.dup, 1) := by decide +kernel
theorem dX1_init_9 : decode cX1_init 9 = .ok (.invokespecial 11, 3) := by decide +kernel
theorem dX1_init_12 : decode cX1_init 12 = .ok (.putfield 12, 3) := by decide +kernel
theorem dX1_init_15 : decode cX1_init 15 = .ok (.aload_n 0, 1) := by decide +kernel
theorem dX1_init_16 : decode cX1_init 16 = .ok (.new 18, 3) := by decide +kernel
theorem dX1_init_19 : decode cX1_init 19 = .ok (.dup, 1) := by decide +kernel
theorem dX1_init_20 : decode cX1_init 20 = .ok (.invokespecial 20, 3) := by decide +kernel
theorem dX1_init_23 : decode cX1_init 23 = .ok (.putfield 21, 3) := by decide +kernel
theorem dX1_init_26 : decode cX1_init 26 = .ok (.aload_n 0, 1) := by decide +kernel
theorem dX1_init_27 : decode cX1_init 27 = .ok (.iconst 0, 1) := by decide +kernel
theorem dX1_init_28 : decode cX1_init 28 = .ok (.putfield 25, 3) := by decide +kernel
theorem dX1_init_31 : decode cX1_init 31 = .ok (.return_, 1) := by decide +kernel
theorem dX1_hear_0 : decode cX1_hear 0 = .ok (.aload_n 0, 1) := by decide +kernel
theorem dX1_hear_1 : decode cX1_hear 1 = .ok (.iload_n 1, 1) := by decide +kernel
theorem dX1_hear_2 : decode cX1_hear 2 = .ok (.putfield 29, 3) := by decide +kernel
theorem dX1_hear_5 : decode cX1_hear 5 = .ok (.aload_n 0, 1) := by decide +kernel
theorem dX1_hear_6 : decode cX1_hear 6 = .ok (.iconst 0, 1) := by decide +kernel
theorem dX1_hear_7 : decode cX1_hear 7 = .ok (.putfield 32, 3) := by decide +kernel
theorem dX1_hear_10 : decode cX1_hear 10 = .ok (.return_, 1) := by decide +kernel
theorem dX1_turnOff_0 : decode cX1_turnOff 0 = .ok (.aload_n 0, 1) := by decide +kernel
theorem dX1_turnOff_1 : decode cX1_turnOff 1 = .ok (.iconst 0, 1) := by decide +kernel
theorem dX1_turnOff_2 : decode cX1_turnOff 2 = .ok (.putfield 25, 3) := by decide +kernel
theorem dX1_turnOff_5 : decode cX1_turnOff 5 = .ok (.aload_n 0, 1) := by decide +kernel
theorem dX1_turnOff_6 : decode cX1_turnOff 6 = .ok (.iconst 0, 1) := by decide +kernel
theorem dX1_turnOff_7 : decode cX1_turnOff 7 = .ok (.putfield 36, 3) := by decide +kernel
theorem dX1_turnOff_10 : decode cX1_turnOff 10 = .ok (.return_, 1) := by decide +kernel
theorem dX2_init_0 : decode cX2_init 0 = .ok (.aload_n 0, 1) := by decide +kernel
theorem dX2_init_1 : decode cX2_init 1 = .ok (.invokespecial 3, 3) := by decide +kernel
theorem dX2_init_4 : decode cX2_init 4 = .ok (.aload_n 0, 1) := by decide +kernel
theorem dX2_init_5 : decode cX2_init 5 = .ok (.sipush 200, 3) := by decide +kernel
theorem dX2_init_8 : decode cX2_init 8 = .ok (.newarray .int, 2) := by decide +kernel
theorem dX2_init_10 : decode cX2_init 10 = .ok (.putfield 9, 3) := by decide +kernel
theorem dX2_init_13 : decode cX2_init 13 = .ok (.aload_n 0, 1) := by decide +kernel
theorem dX2_init_14 : decode cX2_init 14 = .ok (.iconst 1, 1) := by decide +kernel
theorem dX2_init_15 : decode cX2_init 15 = .ok (.putfield 15, 3) := by decide +kernel
theorem dX2_init_18 : decode cX2_init 18 = .ok (.aload_n 0, 1) := by decide +kernel
theorem dX2_init_19 : decode cX2_init 19 = .ok (.sipush 200, 3) := by decide +kernel
theorem dX2_init_22 : decode cX2_init 22 = .ok (.newarray .int, 2) := by decide +kernel
theorem dX2_init_24 : decode cX2_init 24 = .ok (.putfield 19, 3) := by decide +kernel
theorem dX2_init_27 : decode cX2_init 27 = .ok (.return_, 1) := by decide +kernel
theorem dX2_isFull_0 : decode cX2_isFull 0 = .ok (.aload_n 0, 1) := by decide +kernel
theorem dX2_isFull_1 : decode cX2_isFull 1 = .ok (.getfield 22, 3) := by decide +kernel
theorem dX2_isFull_4 : decode cX2_isFull 4 = .ok (.sipush 200, 3) := by decide +kernel
theorem dX2_isFull_7 : decode cX2_isFull 7 = .ok (.if_icmp .lt 7, 3) := by decide +kernel
theorem dX2_isFull_10 : decode cX2_isFull 10 = .ok (.iconst 1, 1) := by decide +kernel
theorem dX2_isFull_11 : decode cX2_isFull 11 = .ok (.goto 4, 3) := by decide +kernel
theorem dX2_isFull_14 : decode cX2_isFull 14 = .ok (.iconst 0, 1) := by decide +kernel
theorem dX2_isFull_15 : decode cX2_isFull 15 = .ok (.ireturn, 1) := by decide +kernel
theorem dX2_emptyAll_0 : decode cX2_emptyAll 0 = .ok (.aload_n 0, 1) := by decide +kernel
theorem dX2_emptyAll_1 : decode cX2_emptyAll 1 = .ok (.iconst 0, 1) := by decide +kernel
theorem dX2_emptyAll_2 : decode cX2_emptyAll 2 = .ok (.putfield 22, 3) := by decide +kernel
theorem dX2_emptyAll_5 : decode cX2_emptyAll 5 = .ok (.aload_n 0, 1) := by decide +kernel
theorem dX2_emptyAll_6 : decode cX2_emptyAll 6 = .ok (.iconst 1, 1) := by decide +kernel
theorem dX2_emptyAll_7 : decode cX2_emptyAll 7 = .ok (.putfield 15, 3) := by decide +kernel
theorem dX2_emptyAll_10 : decode cX2_emptyAll 10 = .ok (.aload_n 0, 1) := by decide +kernel
theorem dX2_emptyAll_11 : decode cX2_emptyAll 11 = .ok (.iconst 0, 1) := by decide +kernel
theorem dX2_emptyAll_12 : decode cX2_emptyAll 12 = .ok (.putfield 25, 3) := by decide +kernel
theorem dX2_emptyAll_15 : decode cX2_emptyAll 15 = .ok (.aload_n 0, 1) := by decide +kernel
theorem dX2_emptyAll_16 : decode cX2_emptyAll 16 = .ok (.iconst 0, 1) := by decide +kernel
theorem dX2_emptyAll_17 : decode cX2_emptyAll 17 = .ok (.putfield 28, 3) := by decide +kernel
theorem dX2_emptyAll_20 : decode cX2_emptyAll 20 = .ok (.return_, 1) := by decide +kernel
theorem dX2_keep_0 : decode cX2_keep 0 = .ok (.aload_n 0, 1) := by decide +kernel
theorem dX2_keep_1 : decode cX2_keep 1 = .ok (.getfield 22, 3) := by decide +kernel
theorem dX2_keep_4 : decode cX2_keep 4 = .ok (.ifCond .lt 35, 3) := by decide +kernel
theorem dX2_keep_7 : decode cX2_keep 7 = .ok (.aload_n 0, 1) := by decide +kernel
theorem dX2_keep_8 : decode cX2_keep 8 = .ok (.getfield 22, 3) := by decide +kernel
theorem dX2_keep_11 : decode cX2_keep 11 = .ok (.aload_n 0, 1) := by decide +kernel
theorem dX2_keep_12 : decode cX2_keep 12 = .ok (.getfield 9, 3) := by decide +kernel
theorem dX2_keep_15 : decode cX2_keep 15 = .ok (.arraylength, 1) := by decide +kernel
theorem dX2_keep_16 : decode cX2_keep 16 = .ok (.if_icmp .ge 23, 3) := by decide +kernel
theorem dX2_keep_19 : decode cX2_keep 19 = .ok (.aload_n 0, 1) := by decide +kernel
theorem dX2_keep_20 : decode cX2_keep 20 = .ok (.getfield 9, 3) := by decide +kernel
theorem dX2_keep_23 : decode cX2_keep 23 = .ok (.aload_n 0, 1) := by decide +kernel
theorem dX2_keep_24 : decode cX2_keep 24 = .ok (.getfield 22, 3) := by decide +kernel
theorem dX2_keep_27 : decode cX2_keep 27 = .ok (.iload_n 1, 1) := by decide +kernel
theorem dX2_keep_28 : decode cX2_keep 28 = .ok (.iastore, 1) := by decide +kernel
theorem dX2_keep_29 : decode cX2_keep 29 = .ok (.aload_n 0, 1) := by decide +kernel
theorem dX2_keep_30 : decode cX2_keep 30 = .ok (.dup, 1) := by decide +kernel
theorem dX2_keep_31 : decode cX2_keep 31 = .ok (.getfield 22, 3) := by decide +kernel
theorem dX2_keep_34 : decode cX2_keep 34 = .ok (.iconst 1, 1) := by decide +kernel
theorem dX2_keep_35 : decode cX2_keep 35 = .ok (.iadd, 1) := by decide +kernel
theorem dX2_keep_36 : decode cX2_keep 36 = .ok (.putfield 22, 3) := by decide +kernel
theorem dX2_keep_39 : decode cX2_keep 39 = .ok (.return_, 1) := by decide +kernel
theorem dX2_sentAt_0 : decode cX2_sentAt 0 = .ok (.iload_n 1, 1) := by decide +kernel
theorem dX2_sentAt_1 : decode cX2_sentAt 1 = .ok (.iconst 1, 1) := by decide +kernel
theorem dX2_sentAt_2 : decode cX2_sentAt 2 = .ok (.if_icmp .lt 12, 3) := by decide +kernel
theorem dX2_sentAt_5 : decode cX2_sentAt 5 = .ok (.iload_n 1, 1) := by decide +kernel
theorem dX2_sentAt_6 : decode cX2_sentAt 6 = .ok (.aload_n 0, 1) := by decide +kernel
theorem dX2_sentAt_7 : decode cX2_sentAt 7 = .ok (.getfield 9, 3) := by decide +kernel
theorem dX2_sentAt_10 : decode cX2_sentAt 10 = .ok (.arraylength, 1) := by decide +kernel
theorem dX2_sentAt_11 : decode cX2_sentAt 11 = .ok (.if_icmp .le 5, 3) := by decide +kernel
theorem dX2_sentAt_14 : decode cX2_sentAt 14 = .ok (.iconst (-1), 1) := by decide +kernel
theorem dX2_sentAt_15 : decode cX2_sentAt 15 = .ok (.ireturn, 1) := by decide +kernel
theorem dX2_sentAt_16 : decode cX2_sentAt 16 = .ok (.aload_n 0, 1) := by decide +kernel
theorem dX2_sentAt_17 : decode cX2_sentAt 17 = .ok (.getfield 9, 3) := by decide +kernel
theorem dX2_sentAt_20 : decode cX2_sentAt 20 = .ok (.iload_n 1, 1) := by decide +kernel
theorem dX2_sentAt_21 : decode cX2_sentAt 21 = .ok (.iconst 1, 1) := by decide +kernel
theorem dX2_sentAt_22 : decode cX2_sentAt 22 = .ok (.isub, 1) := by decide +kernel
theorem dX2_sentAt_23 : decode cX2_sentAt 23 = .ok (.iaload, 1) := by decide +kernel
theorem dX2_sentAt_24 : decode cX2_sentAt 24 = .ok (.ireturn, 1) := by decide +kernel
set_option maxRecDepth 20000 in
theorem ggX2_hasBusiness_X2_sentAt : GoodIn wsX2_hasBusiness wsX2_sentAt := goodIn_r _ [6, 7, 12, 13, 14, 15, 16, 17] (by decide +kernel) (by decide +kernel)
set_option maxRecDepth 20000 in
theorem gX2_hasBusiness_X2_sentAt : GoodIn wsX2_hasBusiness (wsV RX2 31 RX2 yX2_sentAt wsX2_sentAt) := goodIn_app (goodIn_of _ (by decide +kernel)) ggX2_hasBusiness_X2_sentAt
set_option maxRecDepth 20000 in
theorem ggX2_hasBusiness_X0_kindOf : GoodIn wsX2_hasBusiness wsX0_kindOf := goodIn_r _ [11] (by decide +kernel) (by decide +kernel)
set_option maxRecDepth 20000 in
theorem gX2_hasBusiness_X0_kindOf : GoodIn wsX2_hasBusiness (va_wsS RX2 35 yX0_kindOf wsX0_kindOf) := goodIn_app (goodIn_of _ (by decide +kernel)) ggX2_hasBusiness_X0_kindOf
theorem dX2_hasBusiness_0 : decode cX2_hasBusiness 0 = .ok (.iload_n 1, 1) := by decide +kernel
theorem dX2_hasBusiness_1 : decode cX2_hasBusiness 1 = .ok (.iconst 1, 1) := by decide +kernel
theorem dX2_hasBusiness_2 : decode cX2_hasBusiness 2 = .ok (.if_icmp .lt 27, 3) := by decide +kernel
theorem dX2_hasBusiness_5 : decode cX2_hasBusiness 5 = .ok (.iload_n 1, 1) := by decide +kernel
theorem dX2_hasBusiness_6 : decode cX2_hasBusiness 6 = .ok (.aload_n 0, 1) := by decide +kernel
theorem dX2_hasBusiness_7 : decode cX2_hasBusiness 7 = .ok (.getfield 22, 3) := by decide +kernel
theorem dX2_hasBusiness_10 : decode cX2_hasBusiness 10 = .ok (.if_icmp .gt 19, 3) := by decide +kernel
theorem dX2_hasBusiness_13 : decode cX2_hasBusiness 13 = .ok (.aload_n 0, 1) := by decide +kernel
theorem dX2_hasBusiness_14 : decode cX2_hasBusiness 14 = .ok (.iload_n 1, 1) := by decide +kernel
theorem dX2_hasBusiness_15 : decode cX2_hasBusiness 15 = .ok (.invokevirtual 31, 3) := by decide +kernel
theorem dX2_hasBusiness_18 : decode cX2_hasBusiness 18 = .ok (.invokestatic 35, 3) := by decide +kernel
theorem dX2_hasBusiness_21 : decode cX2_hasBusiness 21 = .ok (.iconst 5, 1) := by decide +kernel
theorem dX2_hasBusiness_22 : decode cX2_hasBusiness 22 = .ok (.if_icmp .ne 7, 3) := by decide +kernel
theorem dX2_hasBusiness_25 : decode cX2_hasBusiness 25 = .ok (.iconst 1, 1) := by decide +kernel
theorem dX2_hasBusiness_26 : decode cX2_hasBusiness 26 = .ok (.goto 4, 3) := by decide +kernel
theorem dX2_hasBusiness_29 : decode cX2_hasBusiness 29 = .ok (.iconst 0, 1) := by decide +kernel
theorem dX2_hasBusiness_30 : decode cX2_hasBusiness 30 = .ok (.ireturn, 1) := by decide +kernel
set_option maxRecDepth 20000 in
theorem ggX2_tellsKey_X2_hasBusiness : GoodIn wsX2_tellsKey wsX2_hasBusiness := goodIn_r _ [6, 7, 8, 9, 10, 5, 11, 12, 13, 14, 15, 16, 27, 28, 29, 30, 31, 32] (by decide +kernel) (by decide +kernel)
set_option maxRecDepth 20000 in
theorem gX2_tellsKey_X2_hasBusiness : GoodIn wsX2_tellsKey (wsV RX2 40 RX2 yX2_hasBusiness wsX2_hasBusiness) := goodIn_app (goodIn_of _ (by decide +kernel)) ggX2_tellsKey_X2_hasBusiness
set_option maxRecDepth 20000 in
theorem ggX2_tellsKey_X2_sentAt : GoodIn wsX2_tellsKey wsX2_sentAt := goodIn_r _ [11, 12, 27, 28, 29, 30, 31, 32] (by decide +kernel) (by decide +kernel)
set_option maxRecDepth 20000 in
theorem gX2_tellsKey_X2_sentAt : GoodIn wsX2_tellsKey (wsV RX2 31 RX2 yX2_sentAt wsX2_sentAt) := goodIn_app (goodIn_of _ (by decide +kernel)) ggX2_tellsKey_X2_sentAt
set_option maxRecDepth 20000 in
theorem ggX2_tellsKey_X0_isMarked : GoodIn wsX2_tellsKey wsX0_isMarked := goodIn_r _ [19] (by decide +kernel) (by decide +kernel)
set_option maxRecDepth 20000 in
theorem gX2_tellsKey_X0_isMarked : GoodIn wsX2_tellsKey (va_wsS RX2 45 yX0_isMarked wsX0_isMarked) := goodIn_app (goodIn_of _ (by decide +kernel)) ggX2_tellsKey_X0_isMarked
set_option maxRecDepth 20000 in
theorem ggX2_tellsKey_X0_toldBy : GoodIn wsX2_tellsKey wsX0_toldBy := goodIn_r _ [22] (by decide +kernel) (by decide +kernel)
set_option maxRecDepth 20000 in
theorem gX2_tellsKey_X0_toldBy : GoodIn wsX2_tellsKey (va_wsS RX2 49 yX0_toldBy wsX0_toldBy) := goodIn_app (goodIn_of _ (by decide +kernel)) ggX2_tellsKey_X0_toldBy
set_option maxRecDepth 20000 in
theorem ggX2_tellsKey_X2_hasKeyAhead : GoodIn wsX2_tellsKey wsX2_hasKeyAhead := goodIn_r _ [26, 2, 3, 4, 5, 6, 7, 8, 9, 10, 11, 12, 13, 14, 15, 16, 20, 21, 22, 27, 28, 29, 30, 31, 32] (by decide +kernel) (by decide +kernel)
set_option maxRecDepth 20000 in
theorem gX2_tellsKey_X2_hasKeyAhead : GoodIn wsX2_tellsKey (wsV RX2 52 RX2 yX2_hasKeyAhead wsX2_hasKeyAhead) := goodIn_app (goodIn_of _ (by decide +kernel)) ggX2_tellsKey_X2_hasKeyAhead
theorem dX2_tellsKey_0 : decode cX2_tellsKey 0 = .ok (.aload_n 0, 1) := by decide +kernel
theorem dX2_tellsKey_1 : decode cX2_tellsKey 1 = .ok (.iload_n 1, 1) := by decide +kernel
theorem dX2_tellsKey_2 : decode cX2_tellsKey 2 = .ok (.invokevirtual 40, 3) := by decide +kernel
theorem dX2_tellsKey_5 : decode cX2_tellsKey 5 = .ok (.ifCond .ne 5, 3) := by decide +kernel
theorem dX2_tellsKey_8 : decode cX2_tellsKey 8 = .ok (.iconst 0, 1) := by decide +kernel
theorem dX2_tellsKey_9 : decode cX2_tellsKey 9 = .ok (.ireturn, 1) := by decide +kernel
theorem dX2_tellsKey_10 : decode cX2_tellsKey 10 = .ok (.aload_n 0, 1) := by decide +kernel
theorem dX2_tellsKey_11 : decode cX2_tellsKey 11 = .ok (.iload_n 1, 1) := by decide +kernel
theorem dX2_tellsKey_12 : decode cX2_tellsKey 12 = .ok (.invokevirtual 31, 3) := by decide +kernel
theorem dX2_tellsKey_15 : decode cX2_tellsKey 15 = .ok (.istore_n 2, 1) := by decide +kernel
theorem dX2_tellsKey_16 : decode cX2_tellsKey 16 = .ok (.iload_n 2, 1) := by decide +kernel
theorem dX2_tellsKey_17 : decode cX2_tellsKey 17 = .ok (.ldc 44, 2) := by decide +kernel
theorem dX2_tellsKey_19 : decode cX2_tellsKey 19 = .ok (.invokestatic 45, 3) := by decide +kernel
theorem dX2_tellsKey_22 : decode cX2_tellsKey 22 = .ok (.ifCond .eq 15, 3) := by decide +kernel
theorem dX2_tellsKey_25 : decode cX2_tellsKey 25 = .ok (.aload_n 0, 1) := by decide +kernel
theorem dX2_tellsKey_26 : decode cX2_tellsKey 26 = .ok (.iload_n 2, 1) := by decide +kernel
theorem dX2_tellsKey_27 : decode cX2_tellsKey 27 = .ok (.invokestatic 49, 3) := by decide +kernel
theorem dX2_tellsKey_30 : decode cX2_tellsKey 30 = .ok (.iload_n 1, 1) := by decide +kernel
theorem dX2_tellsKey_31 : decode cX2_tellsKey 31 = .ok (.invokevirtual 52, 3) := by decide +kernel
theorem dX2_tellsKey_34 : decode cX2_tellsKey 34 = .ok (.ifCond .ne 7, 3) := by decide +kernel
theorem dX2_tellsKey_37 : decode cX2_tellsKey 37 = .ok (.iconst 1, 1) := by decide +kernel
theorem dX2_tellsKey_38 : decode cX2_tellsKey 38 = .ok (.goto 4, 3) := by decide +kernel
theorem dX2_tellsKey_41 : decode cX2_tellsKey 41 = .ok (.iconst 0, 1) := by decide +kernel
theorem dX2_tellsKey_42 : decode cX2_tellsKey 42 = .ok (.ireturn, 1) := by decide +kernel
set_option maxRecDepth 20000 in
theorem ggX2_hasKeyAhead_X2_hasBusiness : GoodIn wsX2_hasKeyAhead wsX2_hasBusiness := goodIn_r _ [5, 6, 7, 8, 9, 4, 10, 11, 12, 13, 14, 15, 19, 20, 21, 22, 23, 24] (by decide +kernel) (by decide +kernel)
set_option maxRecDepth 20000 in
theorem gX2_hasKeyAhead_X2_hasBusiness : GoodIn wsX2_hasKeyAhead (wsV RX2 40 RX2 yX2_hasBusiness wsX2_hasBusiness) := goodIn_app (goodIn_of _ (by decide +kernel)) ggX2_hasKeyAhead_X2_hasBusiness
set_option maxRecDepth 20000 in
theorem ggX2_hasKeyAhead_X2_sentAt : GoodIn wsX2_hasKeyAhead wsX2_sentAt := goodIn_r _ [10, 11, 19, 20, 21, 22, 23, 24] (by decide +kernel) (by decide +kernel)
set_option maxRecDepth 20000 in
theorem gX2_hasKeyAhead_X2_sentAt : GoodIn wsX2_hasKeyAhead (wsV RX2 31 RX2 yX2_sentAt wsX2_sentAt) := goodIn_app (goodIn_of _ (by decide +kernel)) ggX2_hasKeyAhead_X2_sentAt
set_option maxRecDepth 20000 in
theorem ggX2_hasKeyAhead_X0_toldBy : GoodIn wsX2_hasKeyAhead wsX0_toldBy := goodIn_r _ [18] (by decide +kernel) (by decide +kernel)
set_option maxRecDepth 20000 in
theorem gX2_hasKeyAhead_X0_toldBy : GoodIn wsX2_hasKeyAhead (va_wsS RX2 49 yX0_toldBy wsX0_toldBy) := goodIn_app (goodIn_of _ (by decide +kernel)) ggX2_hasKeyAhead_X0_toldBy
theorem dX2_hasKeyAhead_0 : decode cX2_hasKeyAhead 0 = .ok (.iconst 1, 1) := by decide +kernel
theorem dX2_hasKeyAhead_1 : decode cX2_hasKeyAhead 1 = .ok (.istore_n 3, 1) := by decide +kernel
theorem dX2_hasKeyAhead_2 : decode cX2_hasKeyAhead 2 = .ok (.iload_n 3, 1) := by decide +kernel
theorem dX2_hasKeyAhead_3 : decode cX2_hasKeyAhead 3 = .ok (.iload_n 2, 1) := by decide +kernel
theorem dX2_hasKeyAhead_4 : decode cX2_hasKeyAhead 4 = .ok (.if_icmp .ge 31, 3) := by decide +kernel
theorem dX2_hasKeyAhead_7 : decode cX2_hasKeyAhead 7 = .ok (.aload_n 0, 1) := by decide +kernel
theorem dX2_hasKeyAhead_8 : decode cX2_hasKeyAhead 8 = .ok (.iload_n 3, 1) := by decide +kernel
theorem dX2_hasKeyAhead_9 : decode cX2_hasKeyAhead 9 = .ok (.invokevirtual 40, 3) := by decide +kernel
theorem dX2_hasKeyAhead_12 : decode cX2_hasKeyAhead 12 = .ok (.ifCond .eq 17, 3) := by decide +kernel
theorem dX2_hasKeyAhead_15 : decode cX2_hasKeyAhead 15 = .ok (.aload_n 0, 1) := by decide +kernel
theorem dX2_hasKeyAhead_16 : decode cX2_hasKeyAhead 16 = .ok (.iload_n 3, 1) := by decide +kernel
theorem dX2_hasKeyAhead_17 : decode cX2_hasKeyAhead 17 = .ok (.invokevirtual 31, 3) := by decide +kernel
theorem dX2_hasKeyAhead_20 : decode cX2_hasKeyAhead 20 = .ok (.invokestatic 49, 3) := by decide +kernel
theorem dX2_hasKeyAhead_23 : decode cX2_hasKeyAhead 23 = .ok (.iload_n 1, 1) := by decide +kernel
theorem dX2_hasKeyAhead_24 : decode cX2_hasKeyAhead 24 = .ok (.if_icmp .ne 5, 3) := by decide +kernel
theorem dX2_hasKeyAhead_27 : decode cX2_hasKeyAhead 27 = .ok (.iconst 1, 1) := by decide +kernel
theorem dX2_hasKeyAhead_28 : decode cX2_hasKeyAhead 28 = .ok (.ireturn, 1) := by decide +kernel
theorem dX2_hasKeyAhead_29 : decode cX2_hasKeyAhead 29 = .ok (.iinc 3 1, 3) := by decide +kernel
theorem dX2_hasKeyAhead_32 : decode cX2_hasKeyAhead 32 = .ok (.goto (-30), 3) := by decide +kernel
theorem dX2_hasKeyAhead_35 : decode cX2_hasKeyAhead 35 = .ok (.iconst 0, 1) := by decide +kernel
theorem dX2_hasKeyAhead_36 : decode cX2_hasKeyAhead 36 = .ok (.ireturn, 1) := by decide +kernel
theorem dX2_addKey_0 : decode cX2_addKey 0 = .ok (.aload_n 0, 1) := by decide +kernel
theorem dX2_addKey_1 : decode cX2_addKey 1 = .ok (.getfield 25, 3) := by decide +kernel
theorem dX2_addKey_4 : decode cX2_addKey 4 = .ok (.ifCond .lt 35, 3) := by decide +kernel
theorem dX2_addKey_7 : decode cX2_addKey 7 = .ok (.aload_n 0, 1) := by decide +kernel
theorem dX2_addKey_8 : decode cX2_addKey 8 = .ok (.getfield 25, 3) := by decide +kernel
theorem dX2_addKey_11 : decode cX2_addKey 11 = .ok (.aload_n 0, 1) := by decide +kernel
theorem dX2_addKey_12 : decode cX2_addKey 12 = .ok (.getfield 19, 3) := by decide +kernel
theorem dX2_addKey_15 : decode cX2_addKey 15 = .ok (.arraylength, 1) := by decide +kernel
theorem dX2_addKey_16 : decode cX2_addKey 16 = .ok (.if_icmp .ge 23, 3) := by decide +kernel
theorem dX2_addKey_19 : decode cX2_addKey 19 = .ok (.aload_n 0, 1) := by decide +kernel
theorem dX2_addKey_20 : decode cX2_addKey 20 = .ok (.getfield 19, 3) := by decide +kernel
theorem dX2_addKey_23 : decode cX2_addKey 23 = .ok (.aload_n 0, 1) := by decide +kernel
theorem dX2_addKey_24 : decode cX2_addKey 24 = .ok (.getfield 25, 3) := by decide +kernel
theorem dX2_addKey_27 : decode cX2_addKey 27 = .ok (.iload_n 1, 1) := by decide +kernel
theorem dX2_addKey_28 : decode cX2_addKey 28 = .ok (.iastore, 1) := by decide +kernel
theorem dX2_addKey_29 : decode cX2_addKey 29 = .ok (.aload_n 0, 1) := by decide +kernel
theorem dX2_addKey_30 : decode cX2_addKey 30 = .ok (.dup, 1) := by decide +kernel
theorem dX2_addKey_31 : decode cX2_addKey 31 = .ok (.getfield 25, 3) := by decide +kernel
theorem dX2_addKey_34 : decode cX2_addKey 34 = .ok (.iconst 1, 1) := by decide +kernel
theorem dX2_addKey_35 : decode cX2_addKey 35 = .ok (.iadd, 1) := by decide +kernel
theorem dX2_addKey_36 : decode cX2_addKey 36 = .ok (.putfield 25, 3) := by decide +kernel
theorem dX2_addKey_39 : decode cX2_addKey 39 = .ok (.return_, 1) := by decide +kernel
theorem dX2_keyAt_0 : decode cX2_keyAt 0 = .ok (.iload_n 1, 1) := by decide +kernel
theorem dX2_keyAt_1 : decode cX2_keyAt 1 = .ok (.ifCond .lt 12, 3) := by decide +kernel
theorem dX2_keyAt_4 : decode cX2_keyAt 4 = .ok (.iload_n 1, 1) := by decide +kernel
theorem dX2_keyAt_5 : decode cX2_keyAt 5 = .ok (.aload_n 0, 1) := by decide +kernel
theorem dX2_keyAt_6 : decode cX2_keyAt 6 = .ok (.getfield 19, 3) := by decide +kernel
theorem dX2_keyAt_9 : decode cX2_keyAt 9 = .ok (.arraylength, 1) := by decide +kernel
theorem dX2_keyAt_10 : decode cX2_keyAt 10 = .ok (.if_icmp .lt 5, 3) := by decide +kernel
theorem dX2_keyAt_13 : decode cX2_keyAt 13 = .ok (.iconst (-1), 1) := by decide +kernel
theorem dX2_keyAt_14 : decode cX2_keyAt 14 = .ok (.ireturn, 1) := by decide +kernel
theorem dX2_keyAt_15 : decode cX2_keyAt 15 = .ok (.aload_n 0, 1) := by decide +kernel
theorem dX2_keyAt_16 : decode cX2_keyAt 16 = .ok (.getfield 19, 3) := by decide +kernel
theorem dX2_keyAt_19 : decode cX2_keyAt 19 = .ok (.iload_n 1, 1) := by decide +kernel
theorem dX2_keyAt_20 : decode cX2_keyAt 20 = .ok (.iaload, 1) := by decide +kernel
theorem dX2_keyAt_21 : decode cX2_keyAt 21 = .ok (.ireturn, 1) := by decide +kernel
set_option maxRecDepth 20000 in
theorem ggX2_hasHandled_X2_keyAt : GoodIn wsX2_hasHandled wsX2_keyAt := goodIn_r _ [6, 7, 8, 9, 10, 11, 12, 13] (by decide +kernel) (by decide +kernel)
set_option maxRecDepth 20000 in
theorem gX2_hasHandled_X2_keyAt : GoodIn wsX2_hasHandled (wsV RX2 55 RX2 yX2_keyAt wsX2_keyAt) := goodIn_app (goodIn_of _ (by decide +kernel)) ggX2_hasHandled_X2_keyAt
theorem dX2_hasHandled_0 : decode cX2_hasHandled 0 = .ok (.iconst 0, 1) := by decide +kernel
theorem dX2_hasHandled_1 : decode cX2_hasHandled 1 = .ok (.istore_n 2, 1) := by decide +kernel
theorem dX2_hasHandled_2 : decode cX2_hasHandled 2 = .ok (.iload_n 2, 1) := by decide +kernel
theorem dX2_hasHandled_3 : decode cX2_hasHandled 3 = .ok (.aload_n 0, 1) := by decide +kernel
theorem dX2_hasHandled_4 : decode cX2_hasHandled 4 = .ok (.getfield 25, 3) := by decide +kernel
theorem dX2_hasHandled_7 : decode cX2_hasHandled 7 = .ok (.if_icmp .ge 20, 3) := by decide +kernel
theorem dX2_hasHandled_10 : decode cX2_hasHandled 10 = .ok (.aload_n 0, 1) := by decide +kernel
theorem dX2_hasHandled_11 : decode cX2_hasHandled 11 = .ok (.iload_n 2, 1) := by decide +kernel
theorem dX2_hasHandled_12 : decode cX2_hasHandled 12 = .ok (.invokevirtual 55, 3) := by decide +kernel
theorem dX2_hasHandled_15 : decode cX2_hasHandled 15 = .ok (.iload_n 1, 1) := by decide +kernel
theorem dX2_hasHandled_16 : decode cX2_hasHandled 16 = .ok (.if_icmp .ne 5, 3) := by decide +kernel
theorem dX2_hasHandled_19 : decode cX2_hasHandled 19 = .ok (.iconst 1, 1) := by decide +kernel
theorem dX2_hasHandled_20 : decode cX2_hasHandled 20 = .ok (.ireturn, 1) := by decide +kernel
theorem dX2_hasHandled_21 : decode cX2_hasHandled 21 = .ok (.iinc 2 1, 3) := by decide +kernel
theorem dX2_hasHandled_24 : decode cX2_hasHandled 24 = .ok (.goto (-22), 3) := by decide +kernel
theorem dX2_hasHandled_27 : decode cX2_hasHandled 27 = .ok (.iconst 0, 1) := by decide +kernel
theorem dX2_hasHandled_28 : decode cX2_hasHandled 28 = .ok (.ireturn, 1) := by decide +kernel
theorem dX3_init_0 : decode cX3_init 0 = .ok (.aload_n 0, 1) := by decide +kernel
theorem dX3_init_1 : decode cX3_init 1 = .ok (.invokespecial 3, 3) := by decide +kernel
theorem dX3_init_4 : decode cX3_init 4 = .ok (.aload_n 0, 1) := by decide +kernel
theorem dX3_init_5 : decode cX3_init 5 = .ok (.bipush 60, 2) := by decide +kernel
theorem dX3_init_7 : decode cX3_init 7 = .ok (.newarray .int, 2) := by decide +kernel
theorem dX3_init_9 : decode cX3_init 9 = .ok (.putfield 9, 3) := by decide +kernel
theorem dX3_init_12 : decode cX3_init 12 = .ok (.return_, 1) := by decide +kernel
theorem dX3_put_0 : decode cX3_put 0 = .ok (.aload_n 0, 1) := by decide +kernel
theorem dX3_put_1 : decode cX3_put 1 = .ok (.getfield 15, 3) := by decide +kernel
theorem dX3_put_4 : decode cX3_put 4 = .ok (.ifCond .lt 35, 3) := by decide +kernel
theorem dX3_put_7 : decode cX3_put 7 = .ok (.aload_n 0, 1) := by decide +kernel
theorem dX3_put_8 : decode cX3_put 8 = .ok (.getfield 15, 3) := by decide +kernel
theorem dX3_put_11 : decode cX3_put 11 = .ok (.aload_n 0, 1) := by decide +kernel
theorem dX3_put_12 : decode cX3_put 12 = .ok (.getfield 9, 3) := by decide +kernel
theorem dX3_put_15 : decode cX3_put 15 = .ok (.arraylength, 1) := by decide +kernel
theorem dX3_put_16 : decode cX3_put 16 = .ok (.if_icmp .ge 23, 3) := by decide +kernel
theorem dX3_put_19 : decode cX3_put 19 = .ok (.aload_n 0, 1) := by decide +kernel
theorem dX3_put_20 : decode cX3_put 20 = .ok (.getfield 9, 3) := by decide +kernel
theorem dX3_put_23 : decode cX3_put 23 = .ok (.aload_n 0, 1) := by decide +kernel
theorem dX3_put_24 : decode cX3_put 24 = .ok (.getfield 15, 3) := by decide +kernel
theorem dX3_put_27 : decode cX3_put 27 = .ok (.iload_n 1, 1) := by decide +kernel
theorem dX3_put_28 : decode cX3_put 28 = .ok (.iastore, 1) := by decide +kernel
theorem dX3_put_29 : decode cX3_put 29 = .ok (.aload_n 0, 1) := by decide +kernel
theorem dX3_put_30 : decode cX3_put 30 = .ok (.dup, 1) := by decide +kernel
theorem dX3_put_31 : decode cX3_put 31 = .ok (.getfield 15, 3) := by decide +kernel
theorem dX3_put_34 : decode cX3_put 34 = .ok (.iconst 1, 1) := by decide +kernel
theorem dX3_put_35 : decode cX3_put 35 = .ok (.iadd, 1) := by decide +kernel
theorem dX3_put_36 : decode cX3_put 36 = .ok (.putfield 15, 3) := by decide +kernel
theorem dX3_put_39 : decode cX3_put 39 = .ok (.return_, 1) := by decide +kernel
theorem dX3_messageOn_0 : decode cX3_messageOn 0 = .ok (.iload_n 1, 1) := by decide +kernel
theorem dX3_messageOn_1 : decode cX3_messageOn 1 = .ok (.ifCond .lt 12, 3) := by decide +kernel
theorem dX3_messageOn_4 : decode cX3_messageOn 4 = .ok (.iload_n 1, 1) := by decide +kernel
theorem dX3_messageOn_5 : decode cX3_messageOn 5 = .ok (.aload_n 0, 1) := by decide +kernel
theorem dX3_messageOn_6 : decode cX3_messageOn 6 = .ok (.getfield 9, 3) := by decide +kernel
theorem dX3_messageOn_9 : decode cX3_messageOn 9 = .ok (.arraylength, 1) := by decide +kernel
theorem dX3_messageOn_10 : decode cX3_messageOn 10 = .ok (.if_icmp .lt 5, 3) := by decide +kernel
theorem dX3_messageOn_13 : decode cX3_messageOn 13 = .ok (.iconst (-1), 1) := by decide +kernel
theorem dX3_messageOn_14 : decode cX3_messageOn 14 = .ok (.ireturn, 1) := by decide +kernel
theorem dX3_messageOn_15 : decode cX3_messageOn 15 = .ok (.aload_n 0, 1) := by decide +kernel
theorem dX3_messageOn_16 : decode cX3_messageOn 16 = .ok (.getfield 9, 3) := by decide +kernel
theorem dX3_messageOn_19 : decode cX3_messageOn 19 = .ok (.iload_n 1, 1) := by decide +kernel
theorem dX3_messageOn_20 : decode cX3_messageOn 20 = .ok (.iaload, 1) := by decide +kernel
theorem dX3_messageOn_21 : decode cX3_messageOn 21 = .ok (.ireturn, 1) := by decide +kernel
set_option maxRecDepth 20000 in
theorem ggX3_removeFirst_X3_messageOn : GoodIn wsX3_removeFirst wsX3_messageOn := goodIn_r _ [7, 2, 8, 9] (by decide +kernel) (by decide +kernel)
set_option maxRecDepth 20000 in
theorem gX3_removeFirst_X3_messageOn : GoodIn wsX3_removeFirst (wsV RX3 19 RX3 yX3_messageOn wsX3_messageOn) := goodIn_app (goodIn_of _ (by decide +kernel)) ggX3_removeFirst_X3_messageOn
theorem dX3_removeFirst_0 : decode cX3_removeFirst 0 = .ok (.aload_n 0, 1) := by decide +kernel
theorem dX3_removeFirst_1 : decode cX3_removeFirst 1 = .ok (.getfield 15, 3) := by decide +kernel
theorem dX3_removeFirst_4 : decode cX3_removeFirst 4 = .ok (.ifCond .gt 5, 3) := by decide +kernel
theorem dX3_removeFirst_7 : decode cX3_removeFirst 7 = .ok (.iconst (-1), 1) := by decide +kernel
theorem dX3_removeFirst_8 : decode cX3_removeFirst 8 = .ok (.ireturn, 1) := by decide +kernel
theorem dX3_removeFirst_9 : decode cX3_removeFirst 9 = .ok (.aload_n 0, 1) := by decide +kernel
theorem dX3_removeFirst_10 : decode cX3_removeFirst 10 = .ok (.iconst 0, 1) := by decide +kernel
theorem dX3_removeFirst_11 : decode cX3_removeFirst 11 = .ok (.invokevirtual 19, 3) := by decide +kernel
theorem dX3_removeFirst_14 : decode cX3_removeFirst 14 = .ok (.istore_n 1, 1) := by decide +kernel
theorem dX3_removeFirst_15 : decode cX3_removeFirst 15 = .ok (.iconst 1, 1) := by decide +kernel
theorem dX3_removeFirst_16 : decode cX3_removeFirst 16 = .ok (.istore_n 2, 1) := by decide +kernel
theorem dX3_removeFirst_17 : decode cX3_removeFirst 17 = .ok (.iload_n 2, 1) := by decide +kernel
theorem dX3_removeFirst_18 : decode cX3_removeFirst 18 = .ok (.aload_n 0, 1) := by decide +kernel
theorem dX3_removeFirst_19 : decode cX3_removeFirst 19 = .ok (.getfield 15, 3) := by decide +kernel
theorem dX3_removeFirst_22 : decode cX3_removeFirst 22 = .ok (.if_icmp .ge 32, 3) := by decide +kernel
theorem dX3_removeFirst_25 : decode cX3_removeFirst 25 = .ok (.iload_n 2, 1) := by decide +kernel
theorem dX3_removeFirst_26 : decode cX3_removeFirst 26 = .ok (.aload_n 0, 1) := by decide +kernel
theorem dX3_removeFirst_27 : decode cX3_removeFirst 27 = .ok (.getfield 9, 3) := by decide +kernel
theorem dX3_removeFirst_30 : decode cX3_removeFirst 30 = .ok (.arraylength, 1) := by decide +kernel
theorem dX3_removeFirst_31 : decode cX3_removeFirst 31 = .ok (.if_icmp .ge 23, 3) := by decide +kernel
theorem dX3_removeFirst_34 : decode cX3_removeFirst 34 = .ok (.aload_n 0, 1) := by decide +kernel
theorem dX3_removeFirst_35 : decode cX3_removeFirst 35 = .ok (.getfield 9, 3) := by decide +kernel
theorem dX3_removeFirst_38 : decode cX3_removeFirst 38 = .ok (.iload_n 2, 1) := by decide +kernel
theorem dX3_removeFirst_39 : decode cX3_removeFirst 39 = .ok (.iconst 1, 1) := by decide +kernel
theorem dX3_removeFirst_40 : decode cX3_removeFirst 40 = .ok (.isub, 1) := by decide +kernel
theorem dX3_removeFirst_41 : decode cX3_removeFirst 41 = .ok (.aload_n 0, 1) := by decide +kernel
theorem dX3_removeFirst_42 : decode cX3_removeFirst 42 = .ok (.getfield 9, 3) := by decide +kernel
theorem dX3_removeFirst_45 : decode cX3_removeFirst 45 = .ok (.iload_n 2, 1) := by decide +kernel
theorem dX3_removeFirst_46 : decode cX3_removeFirst 46 = .ok (.iaload, 1) := by decide +kernel
theorem dX3_removeFirst_47 : decode cX3_removeFirst 47 = .ok (.iastore, 1) := by decide +kernel
theorem dX3_removeFirst_48 : decode cX3_removeFirst 48 = .ok (.iinc 2 1, 3) := by decide +kernel
theorem dX3_removeFirst_51 : decode cX3_removeFirst 51 = .ok (.goto (-34), 3) := by decide +kernel
theorem dX3_removeFirst_54 : decode cX3_removeFirst 54 = .ok (.aload_n 0, 1) := by decide +kernel
theorem dX3_removeFirst_55 : decode cX3_removeFirst 55 = .ok (.dup, 1) := by decide +kernel
theorem dX3_removeFirst_56 : decode cX3_removeFirst 56 = .ok (.getfield 15, 3) := by decide +kernel
theorem dX3_removeFirst_59 : decode cX3_removeFirst 59 = .ok (.iconst 1, 1) := by decide +kernel
theorem dX3_removeFirst_60 : decode cX3_removeFirst 60 = .ok (.isub, 1) := by decide +kernel
theorem dX3_removeFirst_61 : decode cX3_removeFirst 61 = .ok (.putfield 15, 3) := by decide +kernel
theorem dX3_removeFirst_64 : decode cX3_removeFirst 64 = .ok (.iload_n 1, 1) := by decide +kernel
theorem dX3_removeFirst_65 : decode cX3_removeFirst 65 = .ok (.ireturn, 1) := by decide +kernel
set_option maxRecDepth 20000 in
theorem ggX4_init_X1_init : GoodIn wsX4_init wsX1_init := goodIn_r _ [11, 12, 2, 3, 13, 14, 15, 16, 17, 18, 19, 20, 21, 22, 23, 24, 25, 26, 27, 28, 29, 30, 31, 32, 44, 45, 46, 47, 48, 49, 33, 34, 35, 36, 37, 38, 39, 40, 50, 51] (by decide +kernel) (by decide +kernel)
set_option maxRecDepth 20000 in
theorem gX4_init_X1_init_n9 : GoodIn wsX4_init (wsX1_init) := ggX4_init_X1_init
theorem dX4_init_0 : decode cX4_init 0 = .ok (.aload_n 0, 1) := by decide +kernel
theorem dX4_init_1 : decode cX4_init 1 = .ok (.invokespecial 1, 3) := by decide +kernel
theorem dX4_init_4 : decode cX4_init 4 = .ok (.aload_n 0, 1) := by decide +kernel
theorem dX4_init_5 : decode cX4_init 5 = .ok (.new 7, 3) := by decide +kernel
theorem dX4_init_8 : decode cX4_init 8 = .ok (.dup, 1) := by decide +kernel
theorem dX4_init_9 : decode cX4_init 9 = .ok (.invokespecial 9, 3) := by decide +kernel
theorem dX4_init_12 : decode cX4_init 12 = .ok (.putfield 10, 3) := by decide +kernel
theorem dX4_init_15 : decode cX4_init 15 = .ok (.aload_n 0, 1) := by decide +kernel
theorem dX4_init_16 : decode cX4_init 16 = .ok (.new 7, 3) := by decide +kernel
theorem dX4_init_19 : decode cX4_init 19 = .ok (.dup, 1) := by decide +kernel
theorem dX4_init_20 : decode cX4_init 20 = .ok (.invokespecial 9, 3) := by decide +kernel
theorem dX4_init_23 : decode cX4_init 23 = .ok (.putfield 16, 3) := by decide +kernel
theorem dX4_init_26 : decode cX4_init 26 = .ok (.aload_n 0, 1) := by decide +kernel
theorem dX4_init_27 : decode cX4_init 27 = .ok (.iconst 0, 1) := by decide +kernel
theorem dX4_init_28 : decode cX4_init 28 = .ok (.putfield 19, 3) := by decide +kernel
theorem dX4_init_31 : decode cX4_init 31 = .ok (.return_, 1) := by decide +kernel
set_option maxRecDepth 20000 in
theorem ggX4_logon_X4_checkSide : GoodIn wsX4_logon wsX4_checkSide := goodIn_ca (goodIn_r _ [8, 9, 10] (by decide +kernel) (by decide +kernel)) (goodIn_sub (fun _ h => List.mem_cons_of_mem _ (List.mem_append_right _ h)) (by decide +kernel))
set_option maxRecDepth 20000 in
theorem gX4_logon_X4_checkSide : GoodIn wsX4_logon (wsV RX4 23 RX4 yX4_checkSide wsX4_checkSide) := goodIn_app (goodIn_of _ (by decide +kernel)) ggX4_logon_X4_checkSide
set_option maxRecDepth 20000 in
theorem ggX4_logon_X4_sideOf : GoodIn wsX4_logon wsX4_sideOf := goodIn_r _ [14, 15, 16, 64, 65, 66] (by decide +kernel) (by decide +kernel)
set_option maxRecDepth 20000 in
theorem gX4_logon_X4_sideOf : GoodIn wsX4_logon (wsV RX4 27 RX4 yX4_sideOf wsX4_sideOf) := goodIn_app (goodIn_of _ (by decide +kernel)) ggX4_logon_X4_sideOf
set_option maxRecDepth 20000 in
theorem ggX4_logon_X2_isFull : GoodIn wsX4_logon wsX2_isFull := goodIn_r _ [21, 22, 67, 68, 69, 70, 71, 72] (by decide +kernel) (by decide +kernel)
set_option maxRecDepth 20000 in
theorem gX4_logon_X2_isFull : GoodIn wsX4_logon (wsV RX4 38 RX2 yX2_isFull wsX2_isFull) := goodIn_app (goodIn_of _ (by decide +kernel)) ggX4_logon_X2_isFull
set_option maxRecDepth 20000 in
theorem ggX4_logon_X4_emptyWires : GoodIn wsX4_logon wsX4_emptyWires := goodIn_r _ [26, 15, 16, 64, 65, 66, 56, 57, 58, 59, 60, 61, 62, 63, 73, 74] (by decide +kernel) (by decide +kernel)
set_option maxRecDepth 20000 in
theorem gX4_logon_X4_emptyWires : GoodIn wsX4_logon (wsV RX4 47 RX4 yX4_emptyWires wsX4_emptyWires) := goodIn_app (goodIn_of _ (by decide +kernel)) ggX4_logon_X4_emptyWires
set_option maxRecDepth 20000 in
theorem ggX4_logon_X4_sendNew : GoodIn wsX4_logon wsX4_sendNew := goodIn_r _ [30, 11, 12, 13, 7, 14, 15, 16, 17, 18, 19, 20, 21, 22, 31, 32, 33, 34, 35, 36, 37, 38, 39, 40, 41, 42, 43, 44, 45, 46, 47, 48, 49, 50, 51, 52, 53, 54, 55, 56, 57, 58, 59, 60, 61, 62, 63, 67, 68, 69, 70, 71, 72, 64, 65, 66, 73, 74] (by decide +kernel) (by decide +kernel)
set_option maxRecDepth 20000 in
theorem gX4_logon_X4_sendNew : GoodIn wsX4_logon (wsV RX4 53 RX4 yX4_sendNew wsX4_sendNew) := goodIn_app (goodIn_of _ (by decide +kernel)) ggX4_logon_X4_sendNew
theorem dX4_logon_0 : decode cX4_logon 0 = .ok (.aload_n 0, 1) := by decide +kernel
theorem dX4_logon_1 : decode cX4_logon 1 = .ok (.iload_n 1, 1) := by decide +kernel
theorem dX4_logon_2 : decode cX4_logon 2 = .ok (.invokevirtual 23, 3) := by decide +kernel
theorem dX4_logon_5 : decode cX4_logon 5 = .ok (.aload_n 0, 1) := by decide +kernel
theorem dX4_logon_6 : decode cX4_logon 6 = .ok (.iload_n 1, 1) := by decide +kernel
theorem dX4_logon_7 : decode cX4_logon 7 = .ok (.invokevirtual 27, 3) := by decide +kernel
theorem dX4_logon_10 : decode cX4_logon 10 = .ok (.astore_n 2, 1) := by decide +kernel
theorem dX4_logon_11 : decode cX4_logon 11 = .ok (.aload_n 2, 1) := by decide +kernel
theorem dX4_logon_12 : decode cX4_logon 12 = .ok (.getfield 31, 3) := by decide +kernel
theorem dX4_logon_15 : decode cX4_logon 15 = .ok (.ifCond .ne 13, 3) := by decide +kernel
theorem dX4_logon_18 : decode cX4_logon 18 = .ok (.aload_n 2, 1) := by decide +kernel
theorem dX4_logon_19 : decode cX4_logon 19 = .ok (.getfield 34, 3) := by decide +kernel
theorem dX4_logon_22 : decode cX4_logon 22 = .ok (.invokevirtual 38, 3) := by decide +kernel
theorem dX4_logon_25 : decode cX4_logon 25 = .ok (.ifCond .eq 11, 3) := by decide +kernel
theorem dX4_logon_28 : decode cX4_logon 28 = .ok (.new 44, 3) := by decide +kernel
theorem dX4_logon_31 : decode cX4_logon 31 = .ok (.dup, 1) := by decide +kernel
theorem dX4_logon_32 : decode cX4_logon 32 = .ok (.invokespecial 46, 3) := by decide +kernel
theorem dX4_logon_35 : decode cX4_logon 35 = .ok (.athrow, 1) := by decide +kernel
theorem dX4_logon_36 : decode cX4_logon 36 = .ok (.aload_n 0, 1) := by decide +kernel
theorem dX4_logon_37 : decode cX4_logon 37 = .ok (.invokevirtual 47, 3) := by decide +kernel
theorem dX4_logon_40 : decode cX4_logon 40 = .ok (.aload_n 2, 1) := by decide +kernel
theorem dX4_logon_41 : decode cX4_logon 41 = .ok (.iconst 1, 1) := by decide +kernel
theorem dX4_logon_42 : decode cX4_logon 42 = .ok (.putfield 31, 3) := by decide +kernel
theorem dX4_logon_45 : decode cX4_logon 45 = .ok (.aload_n 0, 1) := by decide +kernel
theorem dX4_logon_46 : decode cX4_logon 46 = .ok (.iload_n 1, 1) := by decide +kernel
theorem dX4_logon_47 : decode cX4_logon 47 = .ok (.iconst 0, 1) := by decide +kernel
theorem dX4_logon_48 : decode cX4_logon 48 = .ok (.iconst 0, 1) := by decide +kernel
theorem dX4_logon_49 : decode cX4_logon 49 = .ok (.ldc 52, 2) := by decide +kernel
theorem dX4_logon_51 : decode cX4_logon 51 = .ok (.invokevirtual 53, 3) := by decide +kernel
theorem dX4_logon_54 : decode cX4_logon 54 = .ok (.ireturn, 1) := by decide +kernel
set_option maxRecDepth 20000 in
theorem ggX4_logout_X4_checkSide : GoodIn wsX4_logout wsX4_checkSide := goodIn_ca (goodIn_r _ [5, 6, 7] (by decide +kernel) (by decide +kernel)) (goodIn_sub (fun _ h => List.mem_cons_of_mem _ (List.mem_append_left _ (List.mem_append_right _ h))) (by decide +kernel))
set_option maxRecDepth 20000 in
theorem gX4_logout_X4_checkSide : GoodIn wsX4_logout (wsV RX4 23 RX4 yX4_checkSide wsX4_checkSide) := goodIn_app (goodIn_of _ (by decide +kernel)) ggX4_logout_X4_checkSide
set_option maxRecDepth 20000 in
theorem ggX4_logout_X4_checkCanSend : GoodIn wsX4_logout wsX4_checkCanSend := goodIn_ca (goodIn_r _ [11, 12, 13, 14, 15, 16, 4, 17, 18, 19, 20, 21, 22, 23, 24, 25, 62, 63, 64, 65, 66, 67, 68, 69, 70, 71, 72, 73, 74, 75, 76, 77, 78] (by decide +kernel) (by decide +kernel)) (goodIn_sub (fun _ h => List.mem_cons_of_mem _ (List.mem_append_right _ h)) (by decide +kernel))
set_option maxRecDepth 20000 in
theorem gX4_logout_X4_checkCanSend : GoodIn wsX4_logout (wsV RX4 57 RX4 yX4_checkCanSend wsX4_checkCanSend) := goodIn_app (goodIn_of _ (by decide +kernel)) ggX4_logout_X4_checkCanSend
set_option maxRecDepth 20000 in
theorem ggX4_logout_X4_sendNew : GoodIn wsX4_logout wsX4_sendNew := goodIn_r _ [29, 14, 15, 16, 4, 17, 18, 19, 20, 21, 22, 23, 24, 25, 30, 31, 32, 33, 34, 35, 36, 37, 38, 39, 40, 41, 42, 43, 44, 45, 46, 47, 48, 49, 50, 51, 52, 53, 54, 62, 63, 64, 65, 66, 67, 68, 69, 73, 74, 75, 76, 77, 78, 70, 71, 72, 79, 80] (by decide +kernel) (by decide +kernel)
set_option maxRecDepth 20000 in
theorem gX4_logout_X4_sendNew : GoodIn wsX4_logout (wsV RX4 53 RX4 yX4_sendNew wsX4_sendNew) := goodIn_app (goodIn_of _ (by decide +kernel)) ggX4_logout_X4_sendNew
set_option maxRecDepth 20000 in
theorem ggX4_logout_X4_sideOf : GoodIn wsX4_logout wsX4_sideOf := goodIn_r _ [17, 18, 19, 70, 71, 72] (by decide +kernel) (by decide +kernel)
set_option maxRecDepth 20000 in
theorem gX4_logout_X4_sideOf : GoodIn wsX4_logout (wsV RX4 27 RX4 yX4_sideOf wsX4_sideOf) := goodIn_app (goodIn_of _ (by decide +kernel)) ggX4_logout_X4_sideOf
set_option maxRecDepth 20000 in
theorem ggX4_logout_X1_turnOff : GoodIn wsX4_logout wsX1_turnOff := goodIn_r _ [59, 60, 61, 62, 63, 64, 65, 66, 67, 68, 69] (by decide +kernel) (by decide +kernel)
set_option maxRecDepth 20000 in
theorem gX4_logout_X1_turnOff : GoodIn wsX4_logout (wsV RX4 60 RX1 yX1_turnOff wsX1_turnOff) := goodIn_app (goodIn_of _ (by decide +kernel)) ggX4_logout_X1_turnOff
theorem dX4_logout_0 : decode cX4_logout 0 = .ok (.aload_n 0, 1) := by decide +kernel
theorem dX4_logout_1 : decode cX4_logout 1 = .ok (.iload_n 1, 1) := by decide +kernel
theorem dX4_logout_2 : decode cX4_logout 2 = .ok (.invokevirtual 23, 3) := by decide +kernel
theorem dX4_logout_5 : decode cX4_logout 5 = .ok (.aload_n 0, 1) := by decide +kernel
theorem dX4_logout_6 : decode cX4_logout 6 = .ok (.iload_n 1, 1) := by decide +kernel
theorem dX4_logout_7 : decode cX4_logout 7 = .ok (.invokevirtual 57, 3) := by decide +kernel
theorem dX4_logout_10 : decode cX4_logout 10 = .ok (.aload_n 0, 1) := by decide +kernel
theorem dX4_logout_11 : decode cX4_logout 11 = .ok (.iload_n 1, 1) := by decide +kernel
theorem dX4_logout_12 : decode cX4_logout 12 = .ok (.bipush 6, 2) := by decide +kernel
theorem dX4_logout_14 : decode cX4_logout 14 = .ok (.iconst 0, 1) := by decide +kernel
theorem dX4_logout_15 : decode cX4_logout 15 = .ok (.iconst 0, 1) := by decide +kernel
theorem dX4_logout_16 : decode cX4_logout 16 = .ok (.invokevirtual 53, 3) := by decide +kernel
theorem dX4_logout_19 : decode cX4_logout 19 = .ok (.istore_n 2, 1) := by decide +kernel
theorem dX4_logout_20 : decode cX4_logout 20 = .ok (.aload_n 0, 1) := by decide +kernel
theorem dX4_logout_21 : decode cX4_logout 21 = .ok (.iload_n 1, 1) := by decide +kernel
theorem dX4_logout_22 : decode cX4_logout 22 = .ok (.invokevirtual 27, 3) := by decide +kernel
theorem dX4_logout_25 : decode cX4_logout 25 = .ok (.invokevirtual 60, 3) := by decide +kernel
theorem dX4_logout_28 : decode cX4_logout 28 = .ok (.iload_n 2, 1) := by decide +kernel
theorem dX4_logout_29 : decode cX4_logout 29 = .ok (.ireturn, 1) := by decide +kernel
set_option maxRecDepth 20000 in
theorem ggX4_crash_X4_checkSide : GoodIn wsX4_crash wsX4_checkSide := goodIn_ca (goodIn_r _ [5, 6, 7] (by decide +kernel) (by decide +kernel)) (goodIn_sub (fun _ h => List.mem_cons_of_mem _ (List.mem_append_right _ h)) (by decide +kernel))
set_option maxRecDepth 20000 in
theorem gX4_crash_X4_checkSide : GoodIn wsX4_crash (wsV RX4 23 RX4 yX4_checkSide wsX4_checkSide) := goodIn_app (goodIn_of _ (by decide +kernel)) ggX4_crash_X4_checkSide
set_option maxRecDepth 20000 in
theorem ggX4_crash_X4_sideOf : GoodIn wsX4_crash wsX4_sideOf := goodIn_r _ [11, 12, 13, 29, 30, 31] (by decide +kernel) (by decide +kernel)
set_option maxRecDepth 20000 in
theorem gX4_crash_X4_sideOf : GoodIn wsX4_crash (wsV RX4 27 RX4 yX4_sideOf wsX4_sideOf) := goodIn_app (goodIn_of _ (by decide +kernel)) ggX4_crash_X4_sideOf
set_option maxRecDepth 20000 in
theorem ggX4_crash_X1_turnOff : GoodIn wsX4_crash wsX1_turnOff := goodIn_r _ [18, 19, 20, 21, 22, 23, 24, 25, 26, 27, 28] (by decide +kernel) (by decide +kernel)
set_option maxRecDepth 20000 in
theorem gX4_crash_X1_turnOff : GoodIn wsX4_crash (wsV RX4 60 RX1 yX1_turnOff wsX1_turnOff) := goodIn_app (goodIn_of _ (by decide +kernel)) ggX4_crash_X1_turnOff
theorem dX4_crash_0 : decode cX4_crash 0 = .ok (.aload_n 0, 1) := by decide +kernel
theorem dX4_crash_1 : decode cX4_crash 1 = .ok (.iload_n 1, 1) := by decide +kernel
theorem dX4_crash_2 : decode cX4_crash 2 = .ok (.invokevirtual 23, 3) := by decide +kernel
theorem dX4_crash_5 : decode cX4_crash 5 = .ok (.aload_n 0, 1) := by decide +kernel
theorem dX4_crash_6 : decode cX4_crash 6 = .ok (.iload_n 1, 1) := by decide +kernel
theorem dX4_crash_7 : decode cX4_crash 7 = .ok (.invokevirtual 27, 3) := by decide +kernel
theorem dX4_crash_10 : decode cX4_crash 10 = .ok (.getfield 31, 3) := by decide +kernel
theorem dX4_crash_13 : decode cX4_crash 13 = .ok (.iconst 2, 1) := by decide +kernel
theorem dX4_crash_14 : decode cX4_crash 14 = .ok (.if_icmp .ne 7, 3) := by decide +kernel
theorem dX4_crash_17 : decode cX4_crash 17 = .ok (.iconst 1, 1) := by decide +kernel
theorem dX4_crash_18 : decode cX4_crash 18 = .ok (.goto 4, 3) := by decide +kernel
theorem dX4_crash_21 : decode cX4_crash 21 = .ok (.iconst 0, 1) := by decide +kernel
theorem dX4_crash_22 : decode cX4_crash 22 = .ok (.istore_n 2, 1) := by decide +kernel
theorem dX4_crash_23 : decode cX4_crash 23 = .ok (.aload_n 0, 1) := by decide +kernel
theorem dX4_crash_24 : decode cX4_crash 24 = .ok (.iload_n 1, 1) := by decide +kernel
theorem dX4_crash_25 : decode cX4_crash 25 = .ok (.invokevirtual 27, 3) := by decide +kernel
theorem dX4_crash_28 : decode cX4_crash 28 = .ok (.invokevirtual 60, 3) := by decide +kernel
theorem dX4_crash_31 : decode cX4_crash 31 = .ok (.iload_n 2, 1) := by decide +kernel
theorem dX4_crash_32 : decode cX4_crash 32 = .ok (.ireturn, 1) := by decide +kernel
set_option maxRecDepth 20000 in
theorem ggX4_endDay_X2_emptyAll : GoodIn wsX4_endDay wsX2_emptyAll := goodIn_r _ [9, 10, 11, 12, 13, 30, 31, 32, 33, 34, 35] (by decide +kernel) (by decide +kernel)
set_option maxRecDepth 20000 in
theorem gX4_endDay_X2_emptyAll : GoodIn wsX4_endDay (wsV RX4 66 RX2 yX2_emptyAll wsX2_emptyAll) := goodIn_app (goodIn_of _ (by decide +kernel)) ggX4_endDay_X2_emptyAll
set_option maxRecDepth 20000 in
theorem ggX4_endDay_X4_emptyWires : GoodIn wsX4_endDay wsX4_emptyWires := goodIn_r _ [18, 3, 4, 19, 20, 21, 22, 23, 24, 25, 26, 27, 28, 29, 36, 37] (by decide +kernel) (by decide +kernel)
set_option maxRecDepth 20000 in
theorem gX4_endDay_X4_emptyWires : GoodIn wsX4_endDay (wsV RX4 47 RX4 yX4_emptyWires wsX4_emptyWires) := goodIn_app (goodIn_of _ (by decide +kernel)) ggX4_endDay_X4_emptyWires
theorem dX4_endDay_0 : decode cX4_endDay 0 = .ok (.aload_n 0, 1) := by decide +kernel
theorem dX4_endDay_1 : decode cX4_endDay 1 = .ok (.getfield 10, 3) := by decide +kernel
theorem dX4_endDay_4 : decode cX4_endDay 4 = .ok (.getfield 31, 3) := by decide +kernel
theorem dX4_endDay_7 : decode cX4_endDay 7 = .ok (.ifCond .ne 13, 3) := by decide +kernel
theorem dX4_endDay_10 : decode cX4_endDay 10 = .ok (.aload_n 0, 1) := by decide +kernel
theorem dX4_endDay_11 : decode cX4_endDay 11 = .ok (.getfield 16, 3) := by decide +kernel
theorem dX4_endDay_14 : decode cX4_endDay 14 = .ok (.getfield 31, 3) := by decide +kernel
theorem dX4_endDay_17 : decode cX4_endDay 17 = .ok (.ifCond .eq 11, 3) := by decide +kernel
theorem dX4_endDay_20 : decode cX4_endDay 20 = .ok (.new 44, 3) := by decide +kernel
theorem dX4_endDay_23 : decode cX4_endDay 23 = .ok (.dup, 1) := by decide +kernel
theorem dX4_endDay_24 : decode cX4_endDay 24 = .ok (.invokespecial 46, 3) := by decide +kernel
theorem dX4_endDay_27 : decode cX4_endDay 27 = .ok (.athrow, 1) := by decide +kernel
theorem dX4_endDay_28 : decode cX4_endDay 28 = .ok (.aload_n 0, 1) := by decide +kernel
theorem dX4_endDay_29 : decode cX4_endDay 29 = .ok (.getfield 10, 3) := by decide +kernel
theorem dX4_endDay_32 : decode cX4_endDay 32 = .ok (.getfield 34, 3) := by decide +kernel
theorem dX4_endDay_35 : decode cX4_endDay 35 = .ok (.getfield 63, 3) := by decide +kernel
theorem dX4_endDay_38 : decode cX4_endDay 38 = .ok (.aload_n 0, 1) := by decide +kernel
theorem dX4_endDay_39 : decode cX4_endDay 39 = .ok (.getfield 16, 3) := by decide +kernel
theorem dX4_endDay_42 : decode cX4_endDay 42 = .ok (.getfield 34, 3) := by decide +kernel
theorem dX4_endDay_45 : decode cX4_endDay 45 = .ok (.getfield 63, 3) := by decide +kernel
theorem dX4_endDay_48 : decode cX4_endDay 48 = .ok (.iadd, 1) := by decide +kernel
theorem dX4_endDay_49 : decode cX4_endDay 49 = .ok (.istore_n 1, 1) := by decide +kernel
theorem dX4_endDay_50 : decode cX4_endDay 50 = .ok (.aload_n 0, 1) := by decide +kernel
theorem dX4_endDay_51 : decode cX4_endDay 51 = .ok (.getfield 10, 3) := by decide +kernel
theorem dX4_endDay_54 : decode cX4_endDay 54 = .ok (.getfield 34, 3) := by decide +kernel
theorem dX4_endDay_57 : decode cX4_endDay 57 = .ok (.invokevirtual 66, 3) := by decide +kernel
theorem dX4_endDay_60 : decode cX4_endDay 60 = .ok (.aload_n 0, 1) := by decide +kernel
theorem dX4_endDay_61 : decode cX4_endDay 61 = .ok (.getfield 16, 3) := by decide +kernel
theorem dX4_endDay_64 : decode cX4_endDay 64 = .ok (.getfield 34, 3) := by decide +kernel
theorem dX4_endDay_67 : decode cX4_endDay 67 = .ok (.invokevirtual 66, 3) := by decide +kernel
theorem dX4_endDay_70 : decode cX4_endDay 70 = .ok (.aload_n 0, 1) := by decide +kernel
theorem dX4_endDay_71 : decode cX4_endDay 71 = .ok (.invokevirtual 47, 3) := by decide +kernel
theorem dX4_endDay_74 : decode cX4_endDay 74 = .ok (.iload_n 1, 1) := by decide +kernel
theorem dX4_endDay_75 : decode cX4_endDay 75 = .ok (.ireturn, 1) := by decide +kernel
set_option maxRecDepth 20000 in
theorem ggX4_send_X4_checkSide : GoodIn wsX4_send wsX4_checkSide := goodIn_ca (goodIn_r _ [7, 8, 9] (by decide +kernel) (by decide +kernel)) (goodIn_sub (fun _ h => List.mem_cons_of_mem _ (List.mem_append_left _ (List.mem_append_right _ h))) (by decide +kernel))
set_option maxRecDepth 20000 in
theorem gX4_send_X4_checkSide : GoodIn wsX4_send (wsV RX4 23 RX4 yX4_checkSide wsX4_checkSide) := goodIn_app (goodIn_of _ (by decide +kernel)) ggX4_send_X4_checkSide
set_option maxRecDepth 20000 in
theorem ggX4_send_X4_checkCanSend : GoodIn wsX4_send wsX4_checkCanSend := goodIn_ca (goodIn_r _ [13, 14, 15, 16, 17, 18, 6, 19, 20, 21, 22, 23, 24, 25, 26, 27, 57, 58, 59, 60, 61, 62, 63, 64, 65, 66, 67, 68, 69, 70, 71, 72, 73] (by decide +kernel) (by decide +kernel)) (goodIn_sub (fun _ h => List.mem_cons_of_mem _ (List.mem_append_right _ h)) (by decide +kernel))
set_option maxRecDepth 20000 in
theorem gX4_send_X4_checkCanSend : GoodIn wsX4_send (wsV RX4 57 RX4 yX4_checkCanSend wsX4_checkCanSend) := goodIn_app (goodIn_of _ (by decide +kernel)) ggX4_send_X4_checkCanSend
set_option maxRecDepth 20000 in
theorem ggX4_send_X4_sendNew : GoodIn wsX4_send wsX4_sendNew := goodIn_r _ [31, 16, 17, 18, 6, 19, 20, 21, 22, 23, 24, 25, 26, 27, 32, 33, 34, 35, 36, 37, 38, 39, 40, 41, 42, 43, 44, 45, 46, 47, 48, 49, 50, 51, 52, 53, 54, 55, 56, 57, 58, 59, 60, 61, 62, 63, 64, 68, 69, 70, 71, 72, 73, 65, 66, 67, 74, 75] (by decide +kernel) (by decide +kernel)
set_option maxRecDepth 20000 in
theorem gX4_send_X4_sendNew : GoodIn wsX4_send (wsV RX4 53 RX4 yX4_sendNew wsX4_sendNew) := goodIn_app (goodIn_of _ (by decide +kernel)) ggX4_send_X4_sendNew
theorem dX4_send_0 : decode cX4_send 0 = .ok (.aload_n 0, 1) := by decide +kernel
theorem dX4_send_1 : decode cX4_send 1 = .ok (.iload_n 1, 1) := by decide +kernel
theorem dX4_send_2 : decode cX4_send 2 = .ok (.invokevirtual 23, 3) := by decide +kernel
theorem dX4_send_5 : decode cX4_send 5 = .ok (.iload_n 2, 1) := by decide +kernel
theorem dX4_send_6 : decode cX4_send 6 = .ok (.ifCond .lt 10, 3) := by decide +kernel
theorem dX4_send_9 : decode cX4_send 9 = .ok (.iload_n 2, 1) := by decide +kernel
theorem dX4_send_10 : decode cX4_send 10 = .ok (.sipush 999, 3) := by decide +kernel
theorem dX4_send_13 : decode cX4_send 13 = .ok (.if_icmp .le 11, 3) := by decide +kernel
theorem dX4_send_16 : decode cX4_send 16 = .ok (.new 69, 3) := by decide +kernel
theorem dX4_send_19 : decode cX4_send 19 = .ok (.dup, 1) := by decide +kernel
theorem dX4_send_20 : decode cX4_send 20 = .ok (.invokespecial 71, 3) := by decide +kernel
theorem dX4_send_23 : decode cX4_send 23 = .ok (.athrow, 1) := by decide +kernel
theorem dX4_send_24 : decode cX4_send 24 = .ok (.aload_n 0, 1) := by decide +kernel
theorem dX4_send_25 : decode cX4_send 25 = .ok (.iload_n 1, 1) := by decide +kernel
theorem dX4_send_26 : decode cX4_send 26 = .ok (.invokevirtual 57, 3) := by decide +kernel
theorem dX4_send_29 : decode cX4_send 29 = .ok (.aload_n 0, 1) := by decide +kernel
theorem dX4_send_30 : decode cX4_send 30 = .ok (.iload_n 1, 1) := by decide +kernel
theorem dX4_send_31 : decode cX4_send 31 = .ok (.iconst 5, 1) := by decide +kernel
theorem dX4_send_32 : decode cX4_send 32 = .ok (.iload_n 2, 1) := by decide +kernel
theorem dX4_send_33 : decode cX4_send 33 = .ok (.iconst 0, 1) := by decide +kernel
theorem dX4_send_34 : decode cX4_send 34 = .ok (.invokevirtual 53, 3) := by decide +kernel
theorem dX4_send_37 : decode cX4_send 37 = .ok (.ireturn, 1) := by decide +kernel
set_option maxRecDepth 20000 in
theorem ggX4_again_X4_checkSide : GoodIn wsX4_again wsX4_checkSide := goodIn_ca (goodIn_r _ [8, 1, 2] (by decide +kernel) (by decide +kernel)) (goodIn_sub (fun _ h => List.mem_cons_of_mem _ (List.mem_append_left _ (List.mem_append_right _ h))) (by decide +kernel))
set_option maxRecDepth 20000 in
theorem gX4_again_X4_checkSide : GoodIn wsX4_again (wsV RX4 23 RX4 yX4_checkSide wsX4_checkSide) := goodIn_app (goodIn_of _ (by decide +kernel)) ggX4_again_X4_checkSide
set_option maxRecDepth 20000 in
theorem ggX4_again_X4_sideOf : GoodIn wsX4_again wsX4_sideOf := goodIn_r _ [12, 13, 14, 79, 80, 81] (by decide +kernel) (by decide +kernel)
set_option maxRecDepth 20000 in
theorem gX4_again_X4_sideOf : GoodIn wsX4_again (wsV RX4 27 RX4 yX4_sideOf wsX4_sideOf) := goodIn_app (goodIn_of _ (by decide +kernel)) ggX4_again_X4_sideOf
set_option maxRecDepth 20000 in
theorem ggX4_again_X2_hasBusiness : GoodIn wsX4_again wsX2_hasBusiness := goodIn_r _ [19, 20, 21, 22, 23, 18, 24, 25, 26, 27, 28, 29, 82, 83, 84, 85, 86, 87] (by decide +kernel) (by decide +kernel)
set_option maxRecDepth 20000 in
theorem gX4_again_X2_hasBusiness : GoodIn wsX4_again (wsV RX4 72 RX2 yX2_hasBusiness wsX2_hasBusiness) := goodIn_app (goodIn_of _ (by decide +kernel)) ggX4_again_X2_hasBusiness
set_option maxRecDepth 20000 in
theorem ggX4_again_X4_checkCanSend : GoodIn wsX4_again wsX4_checkCanSend := goodIn_ca (goodIn_r _ [33, 34, 35, 9, 10, 11, 7, 12, 13, 14, 36, 37, 38, 18, 39, 20, 71, 72, 73, 74, 75, 76, 77, 78, 79, 80, 81, 82, 83, 84, 85, 86, 87] (by decide +kernel) (by decide +kernel)) (goodIn_sub (fun _ h => List.mem_cons_of_mem _ (List.mem_append_right _ h)) (by decide +kernel))
set_option maxRecDepth 20000 in
theorem gX4_again_X4_checkCanSend : GoodIn wsX4_again (wsV RX4 57 RX4 yX4_checkCanSend wsX4_checkCanSend) := goodIn_app (goodIn_of _ (by decide +kernel)) ggX4_again_X4_checkCanSend
set_option maxRecDepth 20000 in
theorem ggX4_again_X2_sentAt : GoodIn wsX4_again wsX2_sentAt := goodIn_r _ [24, 25, 82, 83, 84, 85, 86, 87] (by decide +kernel) (by decide +kernel)
set_option maxRecDepth 20000 in
theorem gX4_again_X2_sentAt : GoodIn wsX4_again (wsV RX4 79 RX2 yX2_sentAt wsX2_sentAt) := goodIn_app (goodIn_of _ (by decide +kernel)) ggX4_again_X2_sentAt
set_option maxRecDepth 20000 in
theorem ggX4_again_X0_toldBy : GoodIn wsX4_again wsX0_toldBy := goodIn_r _ [43] (by decide +kernel) (by decide +kernel)
set_option maxRecDepth 20000 in
theorem gX4_again_X0_toldBy : GoodIn wsX4_again (va_wsS RX4 83 yX0_toldBy wsX0_toldBy) := goodIn_app (goodIn_of _ (by decide +kernel)) ggX4_again_X0_toldBy
set_option maxRecDepth 20000 in
theorem ggX4_again_X4_sendNew : GoodIn wsX4_again wsX4_sendNew := goodIn_r _ [47, 9, 10, 11, 7, 12, 13, 14, 36, 37, 38, 18, 39, 20, 48, 49, 28, 50, 51, 52, 53, 54, 25, 55, 56, 57, 58, 59, 60, 61, 62, 63, 64, 65, 66, 67, 68, 69, 70, 71, 72, 73, 74, 75, 76, 77, 78, 82, 83, 84, 85, 86, 87, 79, 80, 81, 88, 89] (by decide +kernel) (by decide +kernel)
set_option maxRecDepth 20000 in
theorem gX4_again_X4_sendNew : GoodIn wsX4_again (wsV RX4 53 RX4 yX4_sendNew wsX4_sendNew) := goodIn_app (goodIn_of _ (by decide +kernel)) ggX4_again_X4_sendNew
theorem dX4_again_0 : decode cX4_again 0 = .ok (.aload_n 0, 1) := by decide +kernel
theorem dX4_again_1 : decode cX4_again 1 = .ok (.iload_n 1, 1) := by decide +kernel
theorem dX4_again_2 : decode cX4_again 2 = .ok (.invokevirtual 23, 3) := by decide +kernel
theorem dX4_again_5 : decode cX4_again 5 = .ok (.aload_n 0, 1) := by decide +kernel
theorem dX4_again_6 : decode cX4_again 6 = .ok (.iload_n 1, 1) := by decide +kernel
theorem dX4_again_7 : decode cX4_again 7 = .ok (.invokevirtual 27, 3) := by decide +kernel
theorem dX4_again_10 : decode cX4_again 10 = .ok (.getfield 34, 3) := by decide +kernel
theorem dX4_again_13 : decode cX4_again 13 = .ok (.astore_n 3, 1) := by decide +kernel
theorem dX4_again_14 : decode cX4_again 14 = .ok (.aload_n 3, 1) := by decide +kernel
theorem dX4_again_15 : decode cX4_again 15 = .ok (.iload_n 2, 1) := by decide +kernel
theorem dX4_again_16 : decode cX4_again 16 = .ok (.invokevirtual 72, 3) := by decide +kernel
theorem dX4_again_19 : decode cX4_again 19 = .ok (.ifCond .ne 11, 3) := by decide +kernel
theorem dX4_again_22 : decode cX4_again 22 = .ok (.new 76, 3) := by decide +kernel
theorem dX4_again_25 : decode cX4_again 25 = .ok (.dup, 1) := by decide +kernel
theorem dX4_again_26 : decode cX4_again 26 = .ok (.invokespecial 78, 3) := by decide +kernel
theorem dX4_again_29 : decode cX4_again 29 = .ok (.athrow, 1) := by decide +kernel
theorem dX4_again_30 : decode cX4_again 30 = .ok (.aload_n 0, 1) := by decide +kernel
theorem dX4_again_31 : decode cX4_again 31 = .ok (.iload_n 1, 1) := by decide +kernel
theorem dX4_again_32 : decode cX4_again 32 = .ok (.invokevirtual 57, 3) := by decide +kernel
theorem dX4_again_35 : decode cX4_again 35 = .ok (.aload_n 3, 1) := by decide +kernel
theorem dX4_again_36 : decode cX4_again 36 = .ok (.iload_n 2, 1) := by decide +kernel
theorem dX4_again_37 : decode cX4_again 37 = .ok (.invokevirtual 79, 3) := by decide +kernel
theorem dX4_again_40 : decode cX4_again 40 = .ok (.invokestatic 83, 3) := by decide +kernel
theorem dX4_again_43 : decode cX4_again 43 = .ok (.istore 4, 2) := by decide +kernel
theorem dX4_again_45 : decode cX4_again 45 = .ok (.aload_n 0, 1) := by decide +kernel
theorem dX4_again_46 : decode cX4_again 46 = .ok (.iload_n 1, 1) := by decide +kernel
theorem dX4_again_47 : decode cX4_again 47 = .ok (.iconst 5, 1) := by decide +kernel
theorem dX4_again_48 : decode cX4_again 48 = .ok (.iload 4, 2) := by decide +kernel
theorem dX4_again_50 : decode cX4_again 50 = .ok (.ldc 86, 2) := by decide +kernel
theorem dX4_again_52 : decode cX4_again 52 = .ok (.invokevirtual 53, 3) := by decide +kernel
theorem dX4_again_55 : decode cX4_again 55 = .ok (.ireturn, 1) := by decide +kernel
set_option maxRecDepth 20000 in
theorem ggX4_deliver_X4_takeFirst : GoodIn wsX4_deliver wsX4_takeFirst := goodIn_ca (goodIn_ca (goodIn_r _ [6, 7, 8, 9, 10, 11, 5, 12, 13, 14, 15, 16, 17, 18, 19, 20, 21, 22, 23, 24, 25, 26, 27, 28, 29, 30, 31, 154, 155, 156, 157, 158, 159, 160, 161, 162, 163, 151, 152, 153] (by decide +kernel) (by decide +kernel)) (goodIn_sub (fun _ h => List.mem_cons_of_mem _ (List.mem_append_left _ (List.mem_append_right _ h))) (by decide +kernel))) (goodIn_sub (fun _ h => List.mem_cons_of_mem _ (List.mem_append_right _ h)) (by decide +kernel))
set_option maxRecDepth 20000 in
theorem gX4_deliver_X4_takeFirst : GoodIn wsX4_deliver (wsV RX4 87 RX4 yX4_takeFirst wsX4_takeFirst) := goodIn_app (goodIn_of _ (by decide +kernel)) ggX4_deliver_X4_takeFirst
set_option maxRecDepth 20000 in
theorem ggX4_deliver_X4_sideOf : GoodIn wsX4_deliver wsX4_sideOf := goodIn_r _ [18, 19, 20, 151, 152, 153] (by decide +kernel) (by decide +kernel)
set_option maxRecDepth 20000 in
theorem gX4_deliver_X4_sideOf : GoodIn wsX4_deliver (wsV RX4 27 RX4 yX4_sideOf wsX4_sideOf) := goodIn_app (goodIn_of _ (by decide +kernel)) ggX4_deliver_X4_sideOf
set_option maxRecDepth 20000 in
theorem ggX4_deliver_X1_hear : GoodIn wsX4_deliver wsX1_hear := goodIn_r _ [36, 37, 38, 154, 155, 156, 157, 158, 159, 160, 161] (by decide +kernel) (by decide +kernel)
set_option maxRecDepth 20000 in
theorem gX4_deliver_X1_hear : GoodIn wsX4_deliver (wsV RX4 90 RX1 yX1_hear wsX1_hear) := goodIn_app (goodIn_of _ (by decide +kernel)) ggX4_deliver_X1_hear
set_option maxRecDepth 20000 in
theorem ggX4_deliver_X4_receive : GoodIn wsX4_deliver wsX4_receive := goodIn_r _ [42, 15, 16, 17, 5, 18, 19, 20, 43, 44, 45, 46, 47, 48, 49, 50, 51, 52, 53, 54, 55, 56, 57, 58, 59, 60, 35, 61, 62, 63, 64, 65, 66, 67, 68, 69, 70, 71, 72, 73, 74, 75, 76, 77, 78, 79, 80, 81, 82, 83, 84, 85, 86, 87, 88, 89, 90, 91, 92, 93, 1, 94, 95, 96, 97, 98, 99, 100, 24, 101, 26, 27, 102, 103, 104, 105, 106, 107, 108, 109, 110, 111, 112, 113, 114, 115, 116, 117, 118, 119, 120, 121, 122, 123, 124, 125, 126, 127, 128, 129, 130, 131, 132, 133, 134, 135, 136, 137, 138, 139, 140, 141, 142, 143, 144, 145, 146, 147, 148, 149, 150, 154, 155, 156, 157, 158, 159, 160, 161, 164, 165, 166, 167, 168, 169, 151, 152, 153, 162, 163] (by decide +kernel) (by decide +kernel)
set_option maxRecDepth 20000 in
theorem gX4_deliver_X4_receive : GoodIn wsX4_deliver (wsV RX4 93 RX4 yX4_receive wsX4_receive) := goodIn_app (goodIn_of _ (by decide +kernel)) ggX4_deliver_X4_receive
set_option maxRecDepth 20000 in
theorem ggX4_deliver_X0_kindOf : GoodIn wsX4_deliver wsX0_kindOf := goodIn_r _ [46] (by decide +kernel) (by decide +kernel)
set_option maxRecDepth 20000 in
theorem gX4_deliver_X0_kindOf : GoodIn wsX4_deliver (va_wsS RX4 97 yX0_kindOf wsX0_kindOf) := goodIn_app (goodIn_of _ (by decide +kernel)) ggX4_deliver_X0_kindOf
theorem dX4_deliver_0 : decode cX4_deliver 0 = .ok (.aload_n 0, 1) := by decide +kernel
theorem dX4_deliver_1 : decode cX4_deliver 1 = .ok (.iload_n 1, 1) := by decide +kernel
theorem dX4_deliver_2 : decode cX4_deliver 2 = .ok (.invokevirtual 87, 3) := by decide +kernel
theorem dX4_deliver_5 : decode cX4_deliver 5 = .ok (.istore_n 2, 1) := by decide +kernel
theorem dX4_deliver_6 : decode cX4_deliver 6 = .ok (.aload_n 0, 1) := by decide +kernel
theorem dX4_deliver_7 : decode cX4_deliver 7 = .ok (.iload_n 1, 1) := by decide +kernel
theorem dX4_deliver_8 : decode cX4_deliver 8 = .ok (.invokevirtual 27, 3) := by decide +kernel
theorem dX4_deliver_11 : decode cX4_deliver 11 = .ok (.aload_n 0, 1) := by decide +kernel
theorem dX4_deliver_12 : decode cX4_deliver 12 = .ok (.getfield 19, 3) := by decide +kernel
theorem dX4_deliver_15 : decode cX4_deliver 15 = .ok (.invokevirtual 90, 3) := by decide +kernel
theorem dX4_deliver_18 : decode cX4_deliver 18 = .ok (.aload_n 0, 1) := by decide +kernel
theorem dX4_deliver_19 : decode cX4_deliver 19 = .ok (.iload_n 1, 1) := by decide +kernel
theorem dX4_deliver_20 : decode cX4_deliver 20 = .ok (.iload_n 2, 1) := by decide +kernel
theorem dX4_deliver_21 : decode cX4_deliver 21 = .ok (.invokevirtual 93, 3) := by decide +kernel
theorem dX4_deliver_24 : decode cX4_deliver 24 = .ok (.iload_n 2, 1) := by decide +kernel
theorem dX4_deliver_25 : decode cX4_deliver 25 = .ok (.invokestatic 97, 3) := by decide +kernel
theorem dX4_deliver_28 : decode cX4_deliver 28 = .ok (.ireturn, 1) := by decide +kernel
set_option maxRecDepth 20000 in
theorem ggX4_lose_X4_takeFirst : GoodIn wsX4_lose wsX4_takeFirst := goodIn_ca (goodIn_ca (goodIn_r _ [5, 6, 7, 8, 9, 10, 4, 11, 12, 13, 14, 15, 16, 17, 18, 19, 20, 21, 22, 23, 24, 25, 26, 27, 28, 29, 30, 35, 36, 37, 38, 39, 40, 41, 42, 43, 44, 45, 46, 47] (by decide +kernel) (by decide +kernel)) (goodIn_sub (fun _ h => List.mem_cons_of_mem _ (List.mem_append_left _ (List.mem_append_right _ h))) (by decide +kernel))) (goodIn_sub (fun _ h => List.mem_cons_of_mem _ (List.mem_append_right _ h)) (by decide +kernel))
set_option maxRecDepth 20000 in
theorem gX4_lose_X4_takeFirst : GoodIn wsX4_lose (wsV RX4 87 RX4 yX4_takeFirst wsX4_takeFirst) := goodIn_app (goodIn_of _ (by decide +kernel)) ggX4_lose_X4_takeFirst
set_option maxRecDepth 20000 in
theorem ggX4_lose_X0_kindOf : GoodIn wsX4_lose wsX0_kindOf := goodIn_r _ [34] (by decide +kernel) (by decide +kernel)
set_option maxRecDepth 20000 in
theorem gX4_lose_X0_kindOf : GoodIn wsX4_lose (va_wsS RX4 97 yX0_kindOf wsX0_kindOf) := goodIn_app (goodIn_of _ (by decide +kernel)) ggX4_lose_X0_kindOf
theorem dX4_lose_0 : decode cX4_lose 0 = .ok (.aload_n 0, 1) := by decide +kernel
theorem dX4_lose_1 : decode cX4_lose 1 = .ok (.iload_n 1, 1) := by decide +kernel
theorem dX4_lose_2 : decode cX4_lose 2 = .ok (.invokevirtual 87, 3) := by decide +kernel
theorem dX4_lose_5 : decode cX4_lose 5 = .ok (.invokestatic 97, 3) := by decide +kernel
theorem dX4_lose_8 : decode cX4_lose 8 = .ok (.ireturn, 1) := by decide +kernel
set_option maxRecDepth 20000 in
theorem ggX4_tick_X4_passTick : GoodIn wsX4_tick wsX4_passTick := goodIn_r _ [6, 1, 7, 8, 9, 5, 10, 11, 12, 13, 14, 15, 16, 17, 18, 19, 20, 21, 22, 23, 24, 25, 26, 27, 28, 29, 30, 31, 32, 33, 34, 35, 36, 37, 38, 39, 40, 41, 42, 43, 44, 45, 46, 47, 48, 49, 50, 51, 52, 53, 57, 58, 59, 60, 61, 62, 63, 64, 54, 55, 56, 65, 66, 67, 68, 69, 70, 71, 72] (by decide +kernel) (by decide +kernel)
set_option maxRecDepth 20000 in
theorem gX4_tick_X4_passTick : GoodIn wsX4_tick (wsV RX4 100 RX4 yX4_passTick wsX4_passTick) := goodIn_app (goodIn_of _ (by decide +kernel)) ggX4_tick_X4_passTick
theorem dX4_tick_0 : decode cX4_tick 0 = .ok (.aload_n 0, 1) := by decide +kernel
theorem dX4_tick_1 : decode cX4_tick 1 = .ok (.dup, 1) := by decide +kernel
theorem dX4_tick_2 : decode cX4_tick 2 = .ok (.getfield 19, 3) := by decide +kernel
theorem dX4_tick_5 : decode cX4_tick 5 = .ok (.iconst 1, 1) := by decide +kernel
theorem dX4_tick_6 : decode cX4_tick 6 = .ok (.iadd, 1) := by decide +kernel
theorem dX4_tick_7 : decode cX4_tick 7 = .ok (.putfield 19, 3) := by decide +kernel
theorem dX4_tick_10 : decode cX4_tick 10 = .ok (.aload_n 0, 1) := by decide +kernel
theorem dX4_tick_11 : decode cX4_tick 11 = .ok (.iconst 0, 1) := by decide +kernel
theorem dX4_tick_12 : decode cX4_tick 12 = .ok (.invokevirtual 100, 3) := by decide +kernel
theorem dX4_tick_15 : decode cX4_tick 15 = .ok (.aload_n 0, 1) := by decide +kernel
theorem dX4_tick_16 : decode cX4_tick 16 = .ok (.iconst 1, 1) := by decide +kernel
theorem dX4_tick_17 : decode cX4_tick 17 = .ok (.invokevirtual 100, 3) := by decide +kernel
theorem dX4_tick_20 : decode cX4_tick 20 = .ok (.aload_n 0, 1) := by decide +kernel
theorem dX4_tick_21 : decode cX4_tick 21 = .ok (.getfield 19, 3) := by decide +kernel
theorem dX4_tick_24 : decode cX4_tick 24 = .ok (.ireturn, 1) := by decide +kernel
set_option maxRecDepth 20000 in
theorem ggX4_stateOf_X4_checkSide : GoodIn wsX4_stateOf wsX4_checkSide := goodIn_ca (goodIn_r _ [5, 6, 7] (by decide +kernel) (by decide +kernel)) (goodIn_sub (fun _ h => List.mem_cons_of_mem _ (List.mem_append_right _ h)) (by decide +kernel))
set_option maxRecDepth 20000 in
theorem gX4_stateOf_X4_checkSide : GoodIn wsX4_stateOf (wsV RX4 23 RX4 yX4_checkSide wsX4_checkSide) := goodIn_app (goodIn_of _ (by decide +kernel)) ggX4_stateOf_X4_checkSide
set_option maxRecDepth 20000 in
theorem ggX4_stateOf_X4_sideOf : GoodIn wsX4_stateOf wsX4_sideOf := goodIn_r _ [11, 12, 13, 22, 23, 24] (by decide +kernel) (by decide +kernel)
set_option maxRecDepth 20000 in
theorem gX4_stateOf_X4_sideOf : GoodIn wsX4_stateOf (wsV RX4 27 RX4 yX4_sideOf wsX4_sideOf) := goodIn_app (goodIn_of _ (by decide +kernel)) ggX4_stateOf_X4_sideOf
theorem dX4_stateOf_0 : decode cX4_stateOf 0 = .ok (.aload_n 0, 1) := by decide +kernel
theorem dX4_stateOf_1 : decode cX4_stateOf 1 = .ok (.iload_n 1, 1) := by decide +kernel
theorem dX4_stateOf_2 : decode cX4_stateOf 2 = .ok (.invokevirtual 23, 3) := by decide +kernel
theorem dX4_stateOf_5 : decode cX4_stateOf 5 = .ok (.aload_n 0, 1) := by decide +kernel
theorem dX4_stateOf_6 : decode cX4_stateOf 6 = .ok (.iload_n 1, 1) := by decide +kernel
theorem dX4_stateOf_7 : decode cX4_stateOf 7 = .ok (.invokevirtual 27, 3) := by decide +kernel
theorem dX4_stateOf_10 : decode cX4_stateOf 10 = .ok (.getfield 31, 3) := by decide +kernel
theorem dX4_stateOf_13 : decode cX4_stateOf 13 = .ok (.ireturn, 1) := by decide +kernel
set_option maxRecDepth 20000 in
theorem ggX4_next_X4_checkSide : GoodIn wsX4_next wsX4_checkSide := goodIn_ca (goodIn_r _ [5, 6, 7] (by decide +kernel) (by decide +kernel)) (goodIn_sub (fun _ h => List.mem_cons_of_mem _ (List.mem_append_right _ h)) (by decide +kernel))
set_option maxRecDepth 20000 in
theorem gX4_next_X4_checkSide : GoodIn wsX4_next (wsV RX4 23 RX4 yX4_checkSide wsX4_checkSide) := goodIn_app (goodIn_of _ (by decide +kernel)) ggX4_next_X4_checkSide
set_option maxRecDepth 20000 in
theorem ggX4_next_X4_sideOf : GoodIn wsX4_next wsX4_sideOf := goodIn_r _ [11, 12, 13, 28, 29, 30] (by decide +kernel) (by decide +kernel)
set_option maxRecDepth 20000 in
theorem gX4_next_X4_sideOf : GoodIn wsX4_next (wsV RX4 27 RX4 yX4_sideOf wsX4_sideOf) := goodIn_app (goodIn_of _ (by decide +kernel)) ggX4_next_X4_sideOf
theorem dX4_next_0 : decode cX4_next 0 = .ok (.aload_n 0, 1) := by decide +kernel
theorem dX4_next_1 : decode cX4_next 1 = .ok (.iload_n 1, 1) := by decide +kernel
theorem dX4_next_2 : decode cX4_next 2 = .ok (.invokevirtual 23, 3) := by decide +kernel
theorem dX4_next_5 : decode cX4_next 5 = .ok (.aload_n 0, 1) := by decide +kernel
theorem dX4_next_6 : decode cX4_next 6 = .ok (.iload_n 1, 1) := by decide +kernel
theorem dX4_next_7 : decode cX4_next 7 = .ok (.invokevirtual 27, 3) := by decide +kernel
theorem dX4_next_10 : decode cX4_next 10 = .ok (.getfield 34, 3) := by decide +kernel
theorem dX4_next_13 : decode cX4_next 13 = .ok (.getfield 63, 3) := by decide +kernel
theorem dX4_next_16 : decode cX4_next 16 = .ok (.iconst 1, 1) := by decide +kernel
theorem dX4_next_17 : decode cX4_next 17 = .ok (.iadd, 1) := by decide +kernel
theorem dX4_next_18 : decode cX4_next 18 = .ok (.ireturn, 1) := by decide +kernel
set_option maxRecDepth 20000 in
theorem ggX4_expected_X4_checkSide : GoodIn wsX4_expected wsX4_checkSide := goodIn_ca (goodIn_r _ [5, 6, 7] (by decide +kernel) (by decide +kernel)) (goodIn_sub (fun _ h => List.mem_cons_of_mem _ (List.mem_append_right _ h)) (by decide +kernel))
set_option maxRecDepth 20000 in
theorem gX4_expected_X4_checkSide : GoodIn wsX4_expected (wsV RX4 23 RX4 yX4_checkSide wsX4_checkSide) := goodIn_app (goodIn_of _ (by decide +kernel)) ggX4_expected_X4_checkSide
set_option maxRecDepth 20000 in
theorem ggX4_expected_X4_sideOf : GoodIn wsX4_expected wsX4_sideOf := goodIn_r _ [11, 12, 13, 28, 29, 30] (by decide +kernel) (by decide +kernel)
set_option maxRecDepth 20000 in
theorem gX4_expected_X4_sideOf : GoodIn wsX4_expected (wsV RX4 27 RX4 yX4_sideOf wsX4_sideOf) := goodIn_app (goodIn_of _ (by decide +kernel)) ggX4_expected_X4_sideOf
theorem dX4_expected_0 : decode cX4_expected 0 = .ok (.aload_n 0, 1) := by decide +kernel
theorem dX4_expected_1 : decode cX4_expected 1 = .ok (.iload_n 1, 1) := by decide +kernel
theorem dX4_expected_2 : decode cX4_expected 2 = .ok (.invokevirtual 23, 3) := by decide +kernel
theorem dX4_expected_5 : decode cX4_expected 5 = .ok (.aload_n 0, 1) := by decide +kernel
theorem dX4_expected_6 : decode cX4_expected 6 = .ok (.iload_n 1, 1) := by decide +kernel
theorem dX4_expected_7 : decode cX4_expected 7 = .ok (.invokevirtual 27, 3) := by decide +kernel
theorem dX4_expected_10 : decode cX4_expected 10 = .ok (.getfield 34, 3) := by decide +kernel
theorem dX4_expected_13 : decode cX4_expected 13 = .ok (.getfield 103, 3) := by decide +kernel
theorem dX4_expected_16 : decode cX4_expected 16 = .ok (.ireturn, 1) := by decide +kernel
set_option maxRecDepth 20000 in
theorem ggX4_isAsking_X4_checkSide : GoodIn wsX4_isAsking wsX4_checkSide := goodIn_ca (goodIn_r _ [5, 6, 7] (by decide +kernel) (by decide +kernel)) (goodIn_sub (fun _ h => List.mem_cons_of_mem _ (List.mem_append_right _ h)) (by decide +kernel))
set_option maxRecDepth 20000 in
theorem gX4_isAsking_X4_checkSide : GoodIn wsX4_isAsking (wsV RX4 23 RX4 yX4_checkSide wsX4_checkSide) := goodIn_app (goodIn_of _ (by decide +kernel)) ggX4_isAsking_X4_checkSide
set_option maxRecDepth 20000 in
theorem ggX4_isAsking_X4_sideOf : GoodIn wsX4_isAsking wsX4_sideOf := goodIn_r _ [11, 12, 13, 22, 23, 24] (by decide +kernel) (by decide +kernel)
set_option maxRecDepth 20000 in
theorem gX4_isAsking_X4_sideOf : GoodIn wsX4_isAsking (wsV RX4 27 RX4 yX4_sideOf wsX4_sideOf) := goodIn_app (goodIn_of _ (by decide +kernel)) ggX4_isAsking_X4_sideOf
theorem dX4_isAsking_0 : decode cX4_isAsking 0 = .ok (.aload_n 0, 1) := by decide +kernel
theorem dX4_isAsking_1 : decode cX4_isAsking 1 = .ok (.iload_n 1, 1) := by decide +kernel
theorem dX4_isAsking_2 : decode cX4_isAsking 2 = .ok (.invokevirtual 23, 3) := by decide +kernel
theorem dX4_isAsking_5 : decode cX4_isAsking 5 = .ok (.aload_n 0, 1) := by decide +kernel
theorem dX4_isAsking_6 : decode cX4_isAsking 6 = .ok (.iload_n 1, 1) := by decide +kernel
theorem dX4_isAsking_7 : decode cX4_isAsking 7 = .ok (.invokevirtual 27, 3) := by decide +kernel
theorem dX4_isAsking_10 : decode cX4_isAsking 10 = .ok (.getfield 106, 3) := by decide +kernel
theorem dX4_isAsking_13 : decode cX4_isAsking 13 = .ok (.ireturn, 1) := by decide +kernel
set_option maxRecDepth 20000 in
theorem ggX4_wire_X4_checkSide : GoodIn wsX4_wire wsX4_checkSide := goodIn_ca (goodIn_r _ [5, 6, 7] (by decide +kernel) (by decide +kernel)) (goodIn_sub (fun _ h => List.mem_cons_of_mem _ (List.mem_append_right _ h)) (by decide +kernel))
set_option maxRecDepth 20000 in
theorem gX4_wire_X4_checkSide : GoodIn wsX4_wire (wsV RX4 23 RX4 yX4_checkSide wsX4_checkSide) := goodIn_app (goodIn_of _ (by decide +kernel)) ggX4_wire_X4_checkSide
set_option maxRecDepth 20000 in
theorem ggX4_wire_X4_sideOf : GoodIn wsX4_wire wsX4_sideOf := goodIn_r _ [11, 12, 13, 24, 25, 26] (by decide +kernel) (by decide +kernel)
set_option maxRecDepth 20000 in
theorem gX4_wire_X4_sideOf : GoodIn wsX4_wire (wsV RX4 27 RX4 yX4_sideOf wsX4_sideOf) := goodIn_app (goodIn_of _ (by decide +kernel)) ggX4_wire_X4_sideOf
theorem dX4_wire_0 : decode cX4_wire 0 = .ok (.aload_n 0, 1) := by decide +kernel
theorem dX4_wire_1 : decode cX4_wire 1 = .ok (.iload_n 1, 1) := by decide +kernel
theorem dX4_wire_2 : decode cX4_wire 2 = .ok (.invokevirtual 23, 3) := by decide +kernel
theorem dX4_wire_5 : decode cX4_wire 5 = .ok (.aload_n 0, 1) := by decide +kernel
theorem dX4_wire_6 : decode cX4_wire 6 = .ok (.iload_n 1, 1) := by decide +kernel
theorem dX4_wire_7 : decode cX4_wire 7 = .ok (.invokevirtual 27, 3) := by decide +kernel
theorem dX4_wire_10 : decode cX4_wire 10 = .ok (.getfield 110, 3) := by decide +kernel
theorem dX4_wire_13 : decode cX4_wire 13 = .ok (.getfield 114, 3) := by decide +kernel
theorem dX4_wire_16 : decode cX4_wire 16 = .ok (.ireturn, 1) := by decide +kernel
set_option maxRecDepth 20000 in
theorem ggX4_numberAt_X4_messageAt : GoodIn wsX4_numberAt wsX4_messageAt := goodIn_ca (goodIn_r _ [5, 6, 7, 8, 9, 10, 4, 11, 12, 13, 14, 15, 16, 17, 18, 19, 20, 21, 22, 23, 28, 29, 30, 31, 32, 33, 34, 35, 36, 37, 38, 39, 40] (by decide +kernel) (by decide +kernel)) (goodIn_sub (fun _ h => List.mem_cons_of_mem _ (List.mem_append_right _ h)) (by decide +kernel))
set_option maxRecDepth 20000 in
theorem gX4_numberAt_X4_messageAt : GoodIn wsX4_numberAt (wsV RX4 119 RX4 yX4_messageAt wsX4_messageAt) := goodIn_app (goodIn_of _ (by decide +kernel)) ggX4_numberAt_X4_messageAt
set_option maxRecDepth 20000 in
theorem ggX4_numberAt_X0_numberOf : GoodIn wsX4_numberAt wsX0_numberOf := goodIn_r _ [27] (by decide +kernel) (by decide +kernel)
set_option maxRecDepth 20000 in
theorem gX4_numberAt_X0_numberOf : GoodIn wsX4_numberAt (va_wsS RX4 123 yX0_numberOf wsX0_numberOf) := goodIn_app (goodIn_of _ (by decide +kernel)) ggX4_numberAt_X0_numberOf
theorem dX4_numberAt_0 : decode cX4_numberAt 0 = .ok (.aload_n 0, 1) := by decide +kernel
theorem dX4_numberAt_1 : decode cX4_numberAt 1 = .ok (.iload_n 1, 1) := by decide +kernel
theorem dX4_numberAt_2 : decode cX4_numberAt 2 = .ok (.iload_n 2, 1) := by decide +kernel
theorem dX4_numberAt_3 : decode cX4_numberAt 3 = .ok (.invokevirtual 119, 3) := by decide +kernel
theorem dX4_numberAt_6 : decode cX4_numberAt 6 = .ok (.invokestatic 123, 3) := by decide +kernel
theorem dX4_numberAt_9 : decode cX4_numberAt 9 = .ok (.ireturn, 1) := by decide +kernel
set_option maxRecDepth 20000 in
theorem ggX4_textLength_X4_messageAt : GoodIn wsX4_textLength wsX4_messageAt := goodIn_ca (goodIn_r _ [5, 6, 7, 8, 9, 10, 4, 11, 12, 13, 14, 15, 16, 17, 18, 19, 20, 21, 22, 23, 259, 260, 261, 262, 263, 264, 265, 266, 267, 268, 269, 270, 271] (by decide +kernel) (by decide +kernel)) (goodIn_sub (fun _ h => List.mem_cons_of_mem _ (List.mem_append_right _ h)) (by decide +kernel))
set_option maxRecDepth 20000 in
theorem gX4_textLength_X4_messageAt : GoodIn wsX4_textLength (wsV RX4 119 RX4 yX4_messageAt wsX4_messageAt) := goodIn_app (goodIn_of _ (by decide +kernel)) ggX4_textLength_X4_messageAt
set_option maxRecDepth 20000 in
theorem ggX4_textLength_X0_textOf : GoodIn wsX4_textLength wsX0_textOf := goodIn_r _ [27, 28, 29, 30, 31, 32, 33, 34, 26, 35, 36, 37, 38, 39, 40, 41, 42, 43, 44, 45, 46, 47, 48, 49, 50, 51, 52, 53, 54, 55, 56, 57, 58, 59, 60, 61, 62, 63, 64, 65, 66, 67, 68, 69, 70, 71, 72, 73, 74, 75, 76, 77, 78, 79, 80, 81, 82, 83, 84, 85, 86, 87, 88, 89, 90, 91, 92, 93, 94, 95, 96, 97, 98, 99, 100, 101, 102, 103, 104, 105, 106, 107, 108, 109, 110, 111, 112, 113, 114, 115, 116, 117, 118, 119, 120, 121, 122, 123, 124, 125, 126, 127, 128, 129, 130, 131, 132, 133, 134, 135, 136, 137, 138, 139, 140, 141, 142, 143, 144, 145, 146, 147, 148, 149, 150, 151, 152, 153, 154, 155, 156, 157, 158, 159, 160, 161, 162, 163, 164, 165, 166, 167, 168, 169, 170, 171, 172, 173, 174, 175, 176, 177, 178, 179, 180, 181, 182, 183, 184, 185, 186, 187, 188, 189, 190, 191, 192, 193, 194, 195, 196, 197, 198, 199, 200, 201, 202, 203, 204, 205, 206, 207, 208, 209, 210, 211, 212, 213, 214, 215, 216, 217, 218, 219, 220, 221, 222, 223, 224, 225, 226, 227, 228, 229, 230, 231, 232, 233, 234, 235, 236, 237, 238, 239, 240, 241, 242, 243, 244, 245, 246, 247, 248, 249, 250, 272, 273, 274, 275] (by decide +kernel) (by decide +kernel)
set_option maxRecDepth 20000 in
theorem gX4_textLength_X0_textOf : GoodIn wsX4_textLength (va_wsS RX4 126 yX0_textOf wsX0_textOf) := goodIn_app (goodIn_of _ (by decide +kernel)) ggX4_textLength_X0_textOf
set_option maxRecDepth 20000 in
theorem ggX4_textLength_J4_length_8abf5 : GoodIn wsX4_textLength wsJ4_length_8abf5 := goodIn_r _ [254, 255, 256, 67, 257, 41, 258, 70, 272, 273, 274, 275] (by decide +kernel) (by decide +kernel)
set_option maxRecDepth 20000 in
theorem gX4_textLength_J4_length_8abf5 : GoodIn wsX4_textLength (wsV RX4 130 RJ4 yJ4_length_8abf5 wsJ4_length_8abf5) := goodIn_app (goodIn_of _ (by decide +kernel)) ggX4_textLength_J4_length_8abf5
theorem dX4_textLength_0 : decode cX4_textLength 0 = .ok (.aload_n 0, 1) := by decide +kernel
theorem dX4_textLength_1 : decode cX4_textLength 1 = .ok (.iload_n 1, 1) := by decide +kernel
theorem dX4_textLength_2 : decode cX4_textLength 2 = .ok (.iload_n 2, 1) := by decide +kernel
theorem dX4_textLength_3 : decode cX4_textLength 3 = .ok (.invokevirtual 119, 3) := by decide +kernel
theorem dX4_textLength_6 : decode cX4_textLength 6 = .ok (.invokestatic 126, 3) := by decide +kernel
theorem dX4_textLength_9 : decode cX4_textLength 9 = .ok (.invokevirtual 130, 3) := by decide +kernel
theorem dX4_textLength_12 : decode cX4_textLength 12 = .ok (.ireturn, 1) := by decide +kernel
set_option maxRecDepth 20000 in
theorem ggX4_textChar_X4_messageAt : GoodIn wsX4_textChar wsX4_messageAt := goodIn_ca (goodIn_r _ [7, 1, 2, 8, 9, 10, 6, 11, 12, 13, 14, 15, 16, 17, 18, 19, 20, 21, 22, 23, 272, 273, 274, 275, 276, 277, 278, 279, 280, 281, 282, 283, 284] (by decide +kernel) (by decide +kernel)) (goodIn_sub (fun _ h => List.mem_cons_of_mem _ (List.mem_append_right _ h)) (by decide +kernel))
set_option maxRecDepth 20000 in
theorem gX4_textChar_X4_messageAt : GoodIn wsX4_textChar (wsV RX4 119 RX4 yX4_messageAt wsX4_messageAt) := goodIn_app (goodIn_of _ (by decide +kernel)) ggX4_textChar_X4_messageAt
set_option maxRecDepth 20000 in
theorem ggX4_textChar_X0_textOf : GoodIn wsX4_textChar wsX0_textOf := goodIn_r _ [27, 28, 29, 30, 31, 32, 33, 34, 26, 35, 36, 37, 38, 39, 40, 41, 42, 43, 44, 45, 46, 47, 48, 49, 50, 51, 52, 53, 54, 55, 56, 57, 58, 59, 60, 61, 62, 63, 64, 65, 66, 67, 68, 69, 70, 71, 72, 73, 74, 75, 76, 77, 78, 79, 80, 81, 82, 83, 84, 85, 86, 87, 88, 89, 90, 91, 92, 93, 94, 95, 96, 97, 98, 99, 100, 101, 102, 103, 104, 105, 106, 107, 108, 109, 110, 111, 112, 113, 114, 115, 116, 117, 118, 119, 120, 121, 122, 123, 124, 125, 126, 127, 128, 129, 130, 131, 132, 133, 134, 135, 136, 137, 138, 139, 140, 141, 142, 143, 144, 145, 146, 147, 148, 149, 150, 151, 152, 153, 154, 155, 156, 157, 158, 159, 160, 161, 162, 163, 164, 165, 166, 167, 168, 169, 170, 171, 172, 173, 174, 175, 176, 177, 178, 179, 180, 181, 182, 183, 184, 185, 186, 187, 188, 189, 190, 191, 192, 193, 194, 195, 196, 197, 198, 199, 200, 201, 202, 203, 204, 205, 206, 207, 208, 209, 210, 211, 212, 213, 214, 215, 216, 217, 218, 219, 220, 221, 222, 223, 224, 225, 226, 227, 228, 229, 230, 231, 232, 233, 234, 235, 236, 237, 238, 239, 240, 241, 242, 243, 244, 245, 246, 247, 248, 249, 250, 285, 286, 287, 288] (by decide +kernel) (by decide +kernel)
set_option maxRecDepth 20000 in
theorem gX4_textChar_X0_textOf : GoodIn wsX4_textChar (va_wsS RX4 126 yX0_textOf wsX0_textOf) := goodIn_app (goodIn_of _ (by decide +kernel)) ggX4_textChar_X0_textOf
set_option maxRecDepth 20000 in
theorem ggX4_textChar_J4_length_8abf5 : GoodIn wsX4_textChar wsJ4_length_8abf5 := goodIn_r _ [254, 255, 256, 67, 257, 41, 258, 70, 285, 286, 287, 288] (by decide +kernel) (by decide +kernel)
set_option maxRecDepth 20000 in
theorem gX4_textChar_J4_length_8abf5 : GoodIn wsX4_textChar (wsV RX4 130 RJ4 yJ4_length_8abf5 wsJ4_length_8abf5) := goodIn_app (goodIn_of _ (by decide +kernel)) ggX4_textChar_J4_length_8abf5
set_option maxRecDepth 20000 in
theorem ggX4_textChar_J4_charAt_5068e : GoodIn wsX4_textChar wsJ4_charAt_5068e := goodIn_r _ [262, 263, 264, 67, 265, 41, 266, 49, 48, 70, 267, 109, 92, 110, 268, 193, 137, 194, 139, 195, 196, 142, 197, 269, 270, 52, 271, 128, 152, 153, 132, 133, 134, 285, 286, 287, 288] (by decide +kernel) (by decide +kernel)
set_option maxRecDepth 20000 in
theorem gX4_textChar_J4_charAt_5068e : GoodIn wsX4_textChar (wsV RX4 136 RJ4 yJ4_charAt_5068e wsJ4_charAt_5068e) := goodIn_app (goodIn_of _ (by decide +kernel)) ggX4_textChar_J4_charAt_5068e
theorem dX4_textChar_0 : decode cX4_textChar 0 = .ok (.aload_n 0, 1) := by decide +kernel
theorem dX4_textChar_1 : decode cX4_textChar 1 = .ok (.iload_n 1, 1) := by decide +kernel
theorem dX4_textChar_2 : decode cX4_textChar 2 = .ok (.iload_n 2, 1) := by decide +kernel
theorem dX4_textChar_3 : decode cX4_textChar 3 = .ok (.invokevirtual 119, 3) := by decide +kernel
theorem dX4_textChar_6 : decode cX4_textChar 6 = .ok (.invokestatic 126, 3) := by decide +kernel
theorem dX4_textChar_9 : decode cX4_textChar 9 = .ok (.astore 4, 2) := by decide +kernel
theorem dX4_textChar_11 : decode cX4_textChar 11 = .ok (.iload_n 3, 1) := by decide +kernel
theorem dX4_textChar_12 : decode cX4_textChar 12 = .ok (.ifCond .lt 12, 3) := by decide +kernel
theorem dX4_textChar_15 : decode cX4_textChar 15 = .ok (.iload_n 3, 1) := by decide +kernel
theorem dX4_textChar_16 : decode cX4_textChar 16 = .ok (.aload 4, 2) := by decide +kernel
theorem dX4_textChar_18 : decode cX4_textChar 18 = .ok (.invokevirtual 130, 3) := by decide +kernel
theorem dX4_textChar_21 : decode cX4_textChar 21 = .ok (.if_icmp .lt 11, 3) := by decide +kernel
theorem dX4_textChar_24 : decode cX4_textChar 24 = .ok (.new 76, 3) := by decide +kernel
theorem dX4_textChar_27 : decode cX4_textChar 27 = .ok (.dup, 1) := by decide +kernel
theorem dX4_textChar_28 : decode cX4_textChar 28 = .ok (.invokespecial 78, 3) := by decide +kernel
theorem dX4_textChar_31 : decode cX4_textChar 31 = .ok (.athrow, 1) := by decide +kernel
theorem dX4_textChar_32 : decode cX4_textChar 32 = .ok (.aload 4, 2) := by decide +kernel
theorem dX4_textChar_34 : decode cX4_textChar 34 = .ok (.iload_n 3, 1) := by decide +kernel
theorem dX4_textChar_35 : decode cX4_textChar 35 = .ok (.invokevirtual 136, 3) := by decide +kernel
theorem dX4_textChar_38 : decode cX4_textChar 38 = .ok (.ireturn, 1) := by decide +kernel
set_option maxRecDepth 20000 in
theorem ggX4_handled_X4_checkSide : GoodIn wsX4_handled wsX4_checkSide := goodIn_ca (goodIn_r _ [5, 6, 7] (by decide +kernel) (by decide +kernel)) (goodIn_sub (fun _ h => List.mem_cons_of_mem _ (List.mem_append_right _ h)) (by decide +kernel))
set_option maxRecDepth 20000 in
theorem gX4_handled_X4_checkSide : GoodIn wsX4_handled (wsV RX4 23 RX4 yX4_checkSide wsX4_checkSide) := goodIn_app (goodIn_of _ (by decide +kernel)) ggX4_handled_X4_checkSide
set_option maxRecDepth 20000 in
theorem ggX4_handled_X4_sideOf : GoodIn wsX4_handled wsX4_sideOf := goodIn_r _ [11, 12, 13, 28, 29, 30] (by decide +kernel) (by decide +kernel)
set_option maxRecDepth 20000 in
theorem gX4_handled_X4_sideOf : GoodIn wsX4_handled (wsV RX4 27 RX4 yX4_sideOf wsX4_sideOf) := goodIn_app (goodIn_of _ (by decide +kernel)) ggX4_handled_X4_sideOf
theorem dX4_handled_0 : decode cX4_handled 0 = .ok (.aload_n 0, 1) := by decide +kernel
theorem dX4_handled_1 : decode cX4_handled 1 = .ok (.iload_n 1, 1) := by decide +kernel
theorem dX4_handled_2 : decode cX4_handled 2 = .ok (.invokevirtual 23, 3) := by decide +kernel
theorem dX4_handled_5 : decode cX4_handled 5 = .ok (.aload_n 0, 1) := by decide +kernel
theorem dX4_handled_6 : decode cX4_handled 6 = .ok (.iload_n 1, 1) := by decide +kernel
theorem dX4_handled_7 : decode cX4_handled 7 = .ok (.invokevirtual 27, 3) := by decide +kernel
theorem dX4_handled_10 : decode cX4_handled 10 = .ok (.getfield 34, 3) := by decide +kernel
theorem dX4_handled_13 : decode cX4_handled 13 = .ok (.getfield 140, 3) := by decide +kernel
theorem dX4_handled_16 : decode cX4_handled 16 = .ok (.ireturn, 1) := by decide +kernel
set_option maxRecDepth 20000 in
theorem ggX4_handledKey_X4_checkSide : GoodIn wsX4_handledKey wsX4_checkSide := goodIn_ca (goodIn_r _ [7, 1, 2] (by decide +kernel) (by decide +kernel)) (goodIn_sub (fun _ h => List.mem_cons_of_mem _ (List.mem_append_right _ h)) (by decide +kernel))
