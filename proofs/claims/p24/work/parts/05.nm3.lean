set_option maxRecDepth 20000 in
theorem gX4_handledKey_X4_checkSide : GoodIn wsX4_handledKey (wsV RX4 23 RX4 yX4_checkSide wsX4_checkSide) := goodIn_app (goodIn_of _ (by decide +kernel)) ggX4_handledKey_X4_checkSide
set_option maxRecDepth 20000 in
theorem ggX4_handledKey_X4_sideOf : GoodIn wsX4_handledKey wsX4_sideOf := goodIn_r _ [11, 12, 13, 34, 35, 36] (by decide +kernel) (by decide +kernel)
set_option maxRecDepth 20000 in
theorem gX4_handledKey_X4_sideOf : GoodIn wsX4_handledKey (wsV RX4 27 RX4 yX4_sideOf wsX4_sideOf) := goodIn_app (goodIn_of _ (by decide +kernel)) ggX4_handledKey_X4_sideOf
set_option maxRecDepth 20000 in
theorem ggX4_handledKey_X2_keyAt : GoodIn wsX4_handledKey wsX2_keyAt := goodIn_r _ [18, 19, 28, 29, 30, 31, 32, 33] (by decide +kernel) (by decide +kernel)
set_option maxRecDepth 20000 in
theorem gX4_handledKey_X2_keyAt : GoodIn wsX4_handledKey (wsV RX4 143 RX2 yX2_keyAt wsX2_keyAt) := goodIn_app (goodIn_of _ (by decide +kernel)) ggX4_handledKey_X2_keyAt
theorem dX4_handledKey_0 : decode cX4_handledKey 0 = .ok (.aload_n 0, 1) := by decide +kernel
theorem dX4_handledKey_1 : decode cX4_handledKey 1 = .ok (.iload_n 1, 1) := by decide +kernel
theorem dX4_handledKey_2 : decode cX4_handledKey 2 = .ok (.invokevirtual 23, 3) := by decide +kernel
theorem dX4_handledKey_5 : decode cX4_handledKey 5 = .ok (.aload_n 0, 1) := by decide +kernel
theorem dX4_handledKey_6 : decode cX4_handledKey 6 = .ok (.iload_n 1, 1) := by decide +kernel
theorem dX4_handledKey_7 : decode cX4_handledKey 7 = .ok (.invokevirtual 27, 3) := by decide +kernel
theorem dX4_handledKey_10 : decode cX4_handledKey 10 = .ok (.getfield 34, 3) := by decide +kernel
theorem dX4_handledKey_13 : decode cX4_handledKey 13 = .ok (.astore_n 3, 1) := by decide +kernel
theorem dX4_handledKey_14 : decode cX4_handledKey 14 = .ok (.iload_n 2, 1) := by decide +kernel
theorem dX4_handledKey_15 : decode cX4_handledKey 15 = .ok (.ifCond .lt 11, 3) := by decide +kernel
theorem dX4_handledKey_18 : decode cX4_handledKey 18 = .ok (.iload_n 2, 1) := by decide +kernel
theorem dX4_handledKey_19 : decode cX4_handledKey 19 = .ok (.aload_n 3, 1) := by decide +kernel
theorem dX4_handledKey_20 : decode cX4_handledKey 20 = .ok (.getfield 140, 3) := by decide +kernel
theorem dX4_handledKey_23 : decode cX4_handledKey 23 = .ok (.if_icmp .lt 11, 3) := by decide +kernel
theorem dX4_handledKey_26 : decode cX4_handledKey 26 = .ok (.new 76, 3) := by decide +kernel
theorem dX4_handledKey_29 : decode cX4_handledKey 29 = .ok (.dup, 1) := by decide +kernel
theorem dX4_handledKey_30 : decode cX4_handledKey 30 = .ok (.invokespecial 78, 3) := by decide +kernel
theorem dX4_handledKey_33 : decode cX4_handledKey 33 = .ok (.athrow, 1) := by decide +kernel
theorem dX4_handledKey_34 : decode cX4_handledKey 34 = .ok (.aload_n 3, 1) := by decide +kernel
theorem dX4_handledKey_35 : decode cX4_handledKey 35 = .ok (.iload_n 2, 1) := by decide +kernel
theorem dX4_handledKey_36 : decode cX4_handledKey 36 = .ok (.invokevirtual 143, 3) := by decide +kernel
theorem dX4_handledKey_39 : decode cX4_handledKey 39 = .ok (.ireturn, 1) := by decide +kernel
set_option maxRecDepth 20000 in
theorem ggX4_doubles_X4_checkSide : GoodIn wsX4_doubles wsX4_checkSide := goodIn_ca (goodIn_r _ [5, 6, 7] (by decide +kernel) (by decide +kernel)) (goodIn_sub (fun _ h => List.mem_cons_of_mem _ (List.mem_append_right _ h)) (by decide +kernel))
set_option maxRecDepth 20000 in
theorem gX4_doubles_X4_checkSide : GoodIn wsX4_doubles (wsV RX4 23 RX4 yX4_checkSide wsX4_checkSide) := goodIn_app (goodIn_of _ (by decide +kernel)) ggX4_doubles_X4_checkSide
set_option maxRecDepth 20000 in
theorem ggX4_doubles_X4_sideOf : GoodIn wsX4_doubles wsX4_sideOf := goodIn_r _ [11, 12, 13, 28, 29, 30] (by decide +kernel) (by decide +kernel)
set_option maxRecDepth 20000 in
theorem gX4_doubles_X4_sideOf : GoodIn wsX4_doubles (wsV RX4 27 RX4 yX4_sideOf wsX4_sideOf) := goodIn_app (goodIn_of _ (by decide +kernel)) ggX4_doubles_X4_sideOf
theorem dX4_doubles_0 : decode cX4_doubles 0 = .ok (.aload_n 0, 1) := by decide +kernel
theorem dX4_doubles_1 : decode cX4_doubles 1 = .ok (.iload_n 1, 1) := by decide +kernel
theorem dX4_doubles_2 : decode cX4_doubles 2 = .ok (.invokevirtual 23, 3) := by decide +kernel
theorem dX4_doubles_5 : decode cX4_doubles 5 = .ok (.aload_n 0, 1) := by decide +kernel
theorem dX4_doubles_6 : decode cX4_doubles 6 = .ok (.iload_n 1, 1) := by decide +kernel
theorem dX4_doubles_7 : decode cX4_doubles 7 = .ok (.invokevirtual 27, 3) := by decide +kernel
theorem dX4_doubles_10 : decode cX4_doubles 10 = .ok (.getfield 34, 3) := by decide +kernel
theorem dX4_doubles_13 : decode cX4_doubles 13 = .ok (.getfield 146, 3) := by decide +kernel
theorem dX4_doubles_16 : decode cX4_doubles 16 = .ok (.ireturn, 1) := by decide +kernel
set_option maxRecDepth 20000 in
theorem ggX4_agreed_X4_checkSide : GoodIn wsX4_agreed wsX4_checkSide := goodIn_ca (goodIn_r _ [9, 10, 11] (by decide +kernel) (by decide +kernel)) (goodIn_sub (fun _ h => List.mem_cons_of_mem _ (List.mem_append_right _ h)) (by decide +kernel))
set_option maxRecDepth 20000 in
theorem gX4_agreed_X4_checkSide : GoodIn wsX4_agreed (wsV RX4 23 RX4 yX4_checkSide wsX4_checkSide) := goodIn_app (goodIn_of _ (by decide +kernel)) ggX4_agreed_X4_checkSide
set_option maxRecDepth 20000 in
theorem ggX4_agreed_X4_sideOf : GoodIn wsX4_agreed wsX4_sideOf := goodIn_r _ [15, 16, 17, 73, 74, 75] (by decide +kernel) (by decide +kernel)
set_option maxRecDepth 20000 in
theorem gX4_agreed_X4_sideOf : GoodIn wsX4_agreed (wsV RX4 27 RX4 yX4_sideOf wsX4_sideOf) := goodIn_app (goodIn_of _ (by decide +kernel)) ggX4_agreed_X4_sideOf
set_option maxRecDepth 20000 in
theorem ggX4_agreed_X4_otherOf : GoodIn wsX4_agreed wsX4_otherOf := goodIn_r _ [21, 17, 16, 73, 74, 75] (by decide +kernel) (by decide +kernel)
set_option maxRecDepth 20000 in
theorem gX4_agreed_X4_otherOf : GoodIn wsX4_agreed (wsV RX4 149 RX4 yX4_otherOf wsX4_otherOf) := goodIn_app (goodIn_of _ (by decide +kernel)) ggX4_agreed_X4_otherOf
set_option maxRecDepth 20000 in
theorem ggX4_agreed_X2_tellsKey : GoodIn wsX4_agreed wsX2_tellsKey := goodIn_r _ [26, 27, 28, 29, 30, 25, 31, 32, 33, 34, 35, 36, 37, 38, 39, 40, 41, 42, 43, 44, 45, 46, 47, 48, 49, 50, 51, 67, 68, 69, 70, 71, 72] (by decide +kernel) (by decide +kernel)
set_option maxRecDepth 20000 in
theorem gX4_agreed_X2_tellsKey : GoodIn wsX4_agreed (wsV RX4 157 RX2 yX2_tellsKey wsX2_tellsKey) := goodIn_app (goodIn_of _ (by decide +kernel)) ggX4_agreed_X2_tellsKey
set_option maxRecDepth 20000 in
theorem ggX4_agreed_X2_keyAt : GoodIn wsX4_agreed wsX2_keyAt := goodIn_r _ [55, 56, 67, 68, 69, 70, 71, 72] (by decide +kernel) (by decide +kernel)
set_option maxRecDepth 20000 in
theorem gX4_agreed_X2_keyAt : GoodIn wsX4_agreed (wsV RX4 143 RX2 yX2_keyAt wsX2_keyAt) := goodIn_app (goodIn_of _ (by decide +kernel)) ggX4_agreed_X2_keyAt
set_option maxRecDepth 20000 in
theorem ggX4_agreed_X2_sentAt : GoodIn wsX4_agreed wsX2_sentAt := goodIn_r _ [36, 37, 67, 68, 69, 70, 71, 72] (by decide +kernel) (by decide +kernel)
set_option maxRecDepth 20000 in
theorem gX4_agreed_X2_sentAt : GoodIn wsX4_agreed (wsV RX4 79 RX2 yX2_sentAt wsX2_sentAt) := goodIn_app (goodIn_of _ (by decide +kernel)) ggX4_agreed_X2_sentAt
set_option maxRecDepth 20000 in
theorem ggX4_agreed_X0_toldBy : GoodIn wsX4_agreed wsX0_toldBy := goodIn_r _ [47] (by decide +kernel) (by decide +kernel)
set_option maxRecDepth 20000 in
theorem gX4_agreed_X0_toldBy : GoodIn wsX4_agreed (va_wsS RX4 83 yX0_toldBy wsX0_toldBy) := goodIn_app (goodIn_of _ (by decide +kernel)) ggX4_agreed_X0_toldBy
theorem dX4_agreed_0 : decode cX4_agreed 0 = .ok (.aload_n 0, 1) := by decide +kernel
theorem dX4_agreed_1 : decode cX4_agreed 1 = .ok (.iload_n 1, 1) := by decide +kernel
theorem dX4_agreed_2 : decode cX4_agreed 2 = .ok (.invokevirtual 23, 3) := by decide +kernel
theorem dX4_agreed_5 : decode cX4_agreed 5 = .ok (.aload_n 0, 1) := by decide +kernel
theorem dX4_agreed_6 : decode cX4_agreed 6 = .ok (.iload_n 1, 1) := by decide +kernel
theorem dX4_agreed_7 : decode cX4_agreed 7 = .ok (.invokevirtual 27, 3) := by decide +kernel
theorem dX4_agreed_10 : decode cX4_agreed 10 = .ok (.getfield 34, 3) := by decide +kernel
theorem dX4_agreed_13 : decode cX4_agreed 13 = .ok (.astore_n 2, 1) := by decide +kernel
theorem dX4_agreed_14 : decode cX4_agreed 14 = .ok (.aload_n 0, 1) := by decide +kernel
theorem dX4_agreed_15 : decode cX4_agreed 15 = .ok (.iload_n 1, 1) := by decide +kernel
theorem dX4_agreed_16 : decode cX4_agreed 16 = .ok (.invokevirtual 149, 3) := by decide +kernel
theorem dX4_agreed_19 : decode cX4_agreed 19 = .ok (.getfield 34, 3) := by decide +kernel
theorem dX4_agreed_22 : decode cX4_agreed 22 = .ok (.astore_n 3, 1) := by decide +kernel
theorem dX4_agreed_23 : decode cX4_agreed 23 = .ok (.aload_n 2, 1) := by decide +kernel
theorem dX4_agreed_24 : decode cX4_agreed 24 = .ok (.getfield 103, 3) := by decide +kernel
theorem dX4_agreed_27 : decode cX4_agreed 27 = .ok (.iconst 1, 1) := by decide +kernel
theorem dX4_agreed_28 : decode cX4_agreed 28 = .ok (.isub, 1) := by decide +kernel
theorem dX4_agreed_29 : decode cX4_agreed 29 = .ok (.aload_n 3, 1) := by decide +kernel
theorem dX4_agreed_30 : decode cX4_agreed 30 = .ok (.getfield 63, 3) := by decide +kernel
theorem dX4_agreed_33 : decode cX4_agreed 33 = .ok (.invokestatic 152, 3) := by decide +kernel
theorem dX4_agreed_36 : decode cX4_agreed 36 = .ok (.istore 4, 2) := by decide +kernel
theorem dX4_agreed_38 : decode cX4_agreed 38 = .ok (.iconst 0, 1) := by decide +kernel
theorem dX4_agreed_39 : decode cX4_agreed 39 = .ok (.istore 5, 2) := by decide +kernel
theorem dX4_agreed_41 : decode cX4_agreed 41 = .ok (.iconst 1, 1) := by decide +kernel
theorem dX4_agreed_42 : decode cX4_agreed 42 = .ok (.istore 6, 2) := by decide +kernel
theorem dX4_agreed_44 : decode cX4_agreed 44 = .ok (.iload 6, 2) := by decide +kernel
theorem dX4_agreed_46 : decode cX4_agreed 46 = .ok (.iload 4, 2) := by decide +kernel
theorem dX4_agreed_48 : decode cX4_agreed 48 = .ok (.if_icmp .gt 54, 3) := by decide +kernel
theorem dX4_agreed_51 : decode cX4_agreed 51 = .ok (.aload_n 3, 1) := by decide +kernel
theorem dX4_agreed_52 : decode cX4_agreed 52 = .ok (.iload 6, 2) := by decide +kernel
theorem dX4_agreed_54 : decode cX4_agreed 54 = .ok (.invokevirtual 157, 3) := by decide +kernel
theorem dX4_agreed_57 : decode cX4_agreed 57 = .ok (.ifCond .ne 6, 3) := by decide +kernel
theorem dX4_agreed_60 : decode cX4_agreed 60 = .ok (.goto 36, 3) := by decide +kernel
theorem dX4_agreed_63 : decode cX4_agreed 63 = .ok (.iload 5, 2) := by decide +kernel
theorem dX4_agreed_65 : decode cX4_agreed 65 = .ok (.aload_n 2, 1) := by decide +kernel
theorem dX4_agreed_66 : decode cX4_agreed 66 = .ok (.getfield 140, 3) := by decide +kernel
theorem dX4_agreed_69 : decode cX4_agreed 69 = .ok (.if_icmp .ge 21, 3) := by decide +kernel
theorem dX4_agreed_72 : decode cX4_agreed 72 = .ok (.aload_n 2, 1) := by decide +kernel
theorem dX4_agreed_73 : decode cX4_agreed 73 = .ok (.iload 5, 2) := by decide +kernel
theorem dX4_agreed_75 : decode cX4_agreed 75 = .ok (.invokevirtual 143, 3) := by decide +kernel
theorem dX4_agreed_78 : decode cX4_agreed 78 = .ok (.aload_n 3, 1) := by decide +kernel
theorem dX4_agreed_79 : decode cX4_agreed 79 = .ok (.iload 6, 2) := by decide +kernel
theorem dX4_agreed_81 : decode cX4_agreed 81 = .ok (.invokevirtual 79, 3) := by decide +kernel
theorem dX4_agreed_84 : decode cX4_agreed 84 = .ok (.invokestatic 83, 3) := by decide +kernel
theorem dX4_agreed_87 : decode cX4_agreed 87 = .ok (.if_icmp .eq 6, 3) := by decide +kernel
theorem dX4_agreed_90 : decode cX4_agreed 90 = .ok (.iload 5, 2) := by decide +kernel
theorem dX4_agreed_92 : decode cX4_agreed 92 = .ok (.ireturn, 1) := by decide +kernel
theorem dX4_agreed_93 : decode cX4_agreed 93 = .ok (.iinc 5 1, 3) := by decide +kernel
theorem dX4_agreed_96 : decode cX4_agreed 96 = .ok (.iinc 6 1, 3) := by decide +kernel
theorem dX4_agreed_99 : decode cX4_agreed 99 = .ok (.goto (-55), 3) := by decide +kernel
theorem dX4_agreed_102 : decode cX4_agreed 102 = .ok (.iload 5, 2) := by decide +kernel
theorem dX4_agreed_104 : decode cX4_agreed 104 = .ok (.ireturn, 1) := by decide +kernel
theorem dX4_checkSide_0 : decode cX4_checkSide 0 = .ok (.iload_n 1, 1) := by decide +kernel
theorem dX4_checkSide_1 : decode cX4_checkSide 1 = .ok (.ifCond .eq 16, 3) := by decide +kernel
theorem dX4_checkSide_4 : decode cX4_checkSide 4 = .ok (.iload_n 1, 1) := by decide +kernel
theorem dX4_checkSide_5 : decode cX4_checkSide 5 = .ok (.iconst 1, 1) := by decide +kernel
theorem dX4_checkSide_6 : decode cX4_checkSide 6 = .ok (.if_icmp .eq 11, 3) := by decide +kernel
theorem dX4_checkSide_9 : decode cX4_checkSide 9 = .ok (.new 76, 3) := by decide +kernel
theorem dX4_checkSide_12 : decode cX4_checkSide 12 = .ok (.dup, 1) := by decide +kernel
theorem dX4_checkSide_13 : decode cX4_checkSide 13 = .ok (.invokespecial 78, 3) := by decide +kernel
theorem dX4_checkSide_16 : decode cX4_checkSide 16 = .ok (.athrow, 1) := by decide +kernel
theorem dX4_checkSide_17 : decode cX4_checkSide 17 = .ok (.return_, 1) := by decide +kernel
set_option maxRecDepth 20000 in
theorem ggX4_checkCanSend_X4_sideOf : GoodIn wsX4_checkCanSend wsX4_sideOf := goodIn_r _ [7, 8, 9, 24, 25, 26] (by decide +kernel) (by decide +kernel)
set_option maxRecDepth 20000 in
theorem gX4_checkCanSend_X4_sideOf : GoodIn wsX4_checkCanSend (wsV RX4 27 RX4 yX4_sideOf wsX4_sideOf) := goodIn_app (goodIn_of _ (by decide +kernel)) ggX4_checkCanSend_X4_sideOf
set_option maxRecDepth 20000 in
theorem ggX4_checkCanSend_X2_isFull : GoodIn wsX4_checkCanSend wsX2_isFull := goodIn_r _ [14, 15, 27, 28, 29, 30, 31, 32] (by decide +kernel) (by decide +kernel)
set_option maxRecDepth 20000 in
theorem gX4_checkCanSend_X2_isFull : GoodIn wsX4_checkCanSend (wsV RX4 38 RX2 yX2_isFull wsX2_isFull) := goodIn_app (goodIn_of _ (by decide +kernel)) ggX4_checkCanSend_X2_isFull
theorem dX4_checkCanSend_0 : decode cX4_checkCanSend 0 = .ok (.aload_n 0, 1) := by decide +kernel
theorem dX4_checkCanSend_1 : decode cX4_checkCanSend 1 = .ok (.iload_n 1, 1) := by decide +kernel
theorem dX4_checkCanSend_2 : decode cX4_checkCanSend 2 = .ok (.invokevirtual 27, 3) := by decide +kernel
theorem dX4_checkCanSend_5 : decode cX4_checkCanSend 5 = .ok (.astore_n 2, 1) := by decide +kernel
theorem dX4_checkCanSend_6 : decode cX4_checkCanSend 6 = .ok (.aload_n 2, 1) := by decide +kernel
theorem dX4_checkCanSend_7 : decode cX4_checkCanSend 7 = .ok (.getfield 31, 3) := by decide +kernel
theorem dX4_checkCanSend_10 : decode cX4_checkCanSend 10 = .ok (.iconst 2, 1) := by decide +kernel
theorem dX4_checkCanSend_11 : decode cX4_checkCanSend 11 = .ok (.if_icmp .ne 13, 3) := by decide +kernel
theorem dX4_checkCanSend_14 : decode cX4_checkCanSend 14 = .ok (.aload_n 2, 1) := by decide +kernel
theorem dX4_checkCanSend_15 : decode cX4_checkCanSend 15 = .ok (.getfield 34, 3) := by decide +kernel
theorem dX4_checkCanSend_18 : decode cX4_checkCanSend 18 = .ok (.invokevirtual 38, 3) := by decide +kernel
theorem dX4_checkCanSend_21 : decode cX4_checkCanSend 21 = .ok (.ifCond .eq 11, 3) := by decide +kernel
theorem dX4_checkCanSend_24 : decode cX4_checkCanSend 24 = .ok (.new 44, 3) := by decide +kernel
theorem dX4_checkCanSend_27 : decode cX4_checkCanSend 27 = .ok (.dup, 1) := by decide +kernel
theorem dX4_checkCanSend_28 : decode cX4_checkCanSend 28 = .ok (.invokespecial 46, 3) := by decide +kernel
theorem dX4_checkCanSend_31 : decode cX4_checkCanSend 31 = .ok (.athrow, 1) := by decide +kernel
theorem dX4_checkCanSend_32 : decode cX4_checkCanSend 32 = .ok (.return_, 1) := by decide +kernel
theorem dX4_sideOf_0 : decode cX4_sideOf 0 = .ok (.iload_n 1, 1) := by decide +kernel
theorem dX4_sideOf_1 : decode cX4_sideOf 1 = .ok (.ifCond .ne 10, 3) := by decide +kernel
theorem dX4_sideOf_4 : decode cX4_sideOf 4 = .ok (.aload_n 0, 1) := by decide +kernel
theorem dX4_sideOf_5 : decode cX4_sideOf 5 = .ok (.getfield 10, 3) := by decide +kernel
theorem dX4_sideOf_8 : decode cX4_sideOf 8 = .ok (.goto 7, 3) := by decide +kernel
theorem dX4_sideOf_11 : decode cX4_sideOf 11 = .ok (.aload_n 0, 1) := by decide +kernel
theorem dX4_sideOf_12 : decode cX4_sideOf 12 = .ok (.getfield 16, 3) := by decide +kernel
theorem dX4_sideOf_15 : decode cX4_sideOf 15 = .ok (.areturn, 1) := by decide +kernel
theorem dX4_otherOf_0 : decode cX4_otherOf 0 = .ok (.iload_n 1, 1) := by decide +kernel
theorem dX4_otherOf_1 : decode cX4_otherOf 1 = .ok (.ifCond .ne 10, 3) := by decide +kernel
theorem dX4_otherOf_4 : decode cX4_otherOf 4 = .ok (.aload_n 0, 1) := by decide +kernel
theorem dX4_otherOf_5 : decode cX4_otherOf 5 = .ok (.getfield 16, 3) := by decide +kernel
theorem dX4_otherOf_8 : decode cX4_otherOf 8 = .ok (.goto 7, 3) := by decide +kernel
theorem dX4_otherOf_11 : decode cX4_otherOf 11 = .ok (.aload_n 0, 1) := by decide +kernel
theorem dX4_otherOf_12 : decode cX4_otherOf 12 = .ok (.getfield 10, 3) := by decide +kernel
theorem dX4_otherOf_15 : decode cX4_otherOf 15 = .ok (.areturn, 1) := by decide +kernel
theorem dX4_emptyWires_0 : decode cX4_emptyWires 0 = .ok (.aload_n 0, 1) := by decide +kernel
theorem dX4_emptyWires_1 : decode cX4_emptyWires 1 = .ok (.getfield 10, 3) := by decide +kernel
theorem dX4_emptyWires_4 : decode cX4_emptyWires 4 = .ok (.getfield 110, 3) := by decide +kernel
theorem dX4_emptyWires_7 : decode cX4_emptyWires 7 = .ok (.iconst 0, 1) := by decide +kernel
theorem dX4_emptyWires_8 : decode cX4_emptyWires 8 = .ok (.putfield 114, 3) := by decide +kernel
theorem dX4_emptyWires_11 : decode cX4_emptyWires 11 = .ok (.aload_n 0, 1) := by decide +kernel
theorem dX4_emptyWires_12 : decode cX4_emptyWires 12 = .ok (.getfield 16, 3) := by decide +kernel
theorem dX4_emptyWires_15 : decode cX4_emptyWires 15 = .ok (.getfield 110, 3) := by decide +kernel
theorem dX4_emptyWires_18 : decode cX4_emptyWires 18 = .ok (.iconst 0, 1) := by decide +kernel
theorem dX4_emptyWires_19 : decode cX4_emptyWires 19 = .ok (.putfield 114, 3) := by decide +kernel
theorem dX4_emptyWires_22 : decode cX4_emptyWires 22 = .ok (.return_, 1) := by decide +kernel
set_option maxRecDepth 20000 in
theorem ggX4_messageAt_X4_checkSide : GoodIn wsX4_messageAt wsX4_checkSide := goodIn_ca (goodIn_r _ [7, 1, 2] (by decide +kernel) (by decide +kernel)) (goodIn_sub (fun _ h => List.mem_cons_of_mem _ (List.mem_append_right _ h)) (by decide +kernel))
set_option maxRecDepth 20000 in
theorem gX4_messageAt_X4_checkSide : GoodIn wsX4_messageAt (wsV RX4 23 RX4 yX4_checkSide wsX4_checkSide) := goodIn_app (goodIn_of _ (by decide +kernel)) ggX4_messageAt_X4_checkSide
set_option maxRecDepth 20000 in
theorem ggX4_messageAt_X4_sideOf : GoodIn wsX4_messageAt wsX4_sideOf := goodIn_r _ [11, 12, 13, 30, 31, 32] (by decide +kernel) (by decide +kernel)
set_option maxRecDepth 20000 in
theorem gX4_messageAt_X4_sideOf : GoodIn wsX4_messageAt (wsV RX4 27 RX4 yX4_sideOf wsX4_sideOf) := goodIn_app (goodIn_of _ (by decide +kernel)) ggX4_messageAt_X4_sideOf
set_option maxRecDepth 20000 in
theorem ggX4_messageAt_X3_messageOn : GoodIn wsX4_messageAt wsX3_messageOn := goodIn_r _ [18, 19, 28, 29] (by decide +kernel) (by decide +kernel)
set_option maxRecDepth 20000 in
theorem gX4_messageAt_X3_messageOn : GoodIn wsX4_messageAt (wsV RX4 160 RX3 yX3_messageOn wsX3_messageOn) := goodIn_app (goodIn_of _ (by decide +kernel)) ggX4_messageAt_X3_messageOn
theorem dX4_messageAt_0 : decode cX4_messageAt 0 = .ok (.aload_n 0, 1) := by decide +kernel
theorem dX4_messageAt_1 : decode cX4_messageAt 1 = .ok (.iload_n 1, 1) := by decide +kernel
theorem dX4_messageAt_2 : decode cX4_messageAt 2 = .ok (.invokevirtual 23, 3) := by decide +kernel
theorem dX4_messageAt_5 : decode cX4_messageAt 5 = .ok (.aload_n 0, 1) := by decide +kernel
theorem dX4_messageAt_6 : decode cX4_messageAt 6 = .ok (.iload_n 1, 1) := by decide +kernel
theorem dX4_messageAt_7 : decode cX4_messageAt 7 = .ok (.invokevirtual 27, 3) := by decide +kernel
theorem dX4_messageAt_10 : decode cX4_messageAt 10 = .ok (.getfield 110, 3) := by decide +kernel
theorem dX4_messageAt_13 : decode cX4_messageAt 13 = .ok (.astore_n 3, 1) := by decide +kernel
theorem dX4_messageAt_14 : decode cX4_messageAt 14 = .ok (.iload_n 2, 1) := by decide +kernel
theorem dX4_messageAt_15 : decode cX4_messageAt 15 = .ok (.ifCond .lt 11, 3) := by decide +kernel
theorem dX4_messageAt_18 : decode cX4_messageAt 18 = .ok (.iload_n 2, 1) := by decide +kernel
theorem dX4_messageAt_19 : decode cX4_messageAt 19 = .ok (.aload_n 3, 1) := by decide +kernel
theorem dX4_messageAt_20 : decode cX4_messageAt 20 = .ok (.getfield 114, 3) := by decide +kernel
theorem dX4_messageAt_23 : decode cX4_messageAt 23 = .ok (.if_icmp .lt 11, 3) := by decide +kernel
theorem dX4_messageAt_26 : decode cX4_messageAt 26 = .ok (.new 76, 3) := by decide +kernel
theorem dX4_messageAt_29 : decode cX4_messageAt 29 = .ok (.dup, 1) := by decide +kernel
theorem dX4_messageAt_30 : decode cX4_messageAt 30 = .ok (.invokespecial 78, 3) := by decide +kernel
theorem dX4_messageAt_33 : decode cX4_messageAt 33 = .ok (.athrow, 1) := by decide +kernel
theorem dX4_messageAt_34 : decode cX4_messageAt 34 = .ok (.aload_n 3, 1) := by decide +kernel
theorem dX4_messageAt_35 : decode cX4_messageAt 35 = .ok (.iload_n 2, 1) := by decide +kernel
theorem dX4_messageAt_36 : decode cX4_messageAt 36 = .ok (.invokevirtual 160, 3) := by decide +kernel
theorem dX4_messageAt_39 : decode cX4_messageAt 39 = .ok (.ireturn, 1) := by decide +kernel
set_option maxRecDepth 20000 in
theorem ggX4_takeFirst_X4_checkSide : GoodIn wsX4_takeFirst wsX4_checkSide := goodIn_ca (goodIn_r _ [7, 8, 9] (by decide +kernel) (by decide +kernel)) (goodIn_sub (fun _ h => List.mem_cons_of_mem _ (List.mem_append_right _ h)) (by decide +kernel))
set_option maxRecDepth 20000 in
theorem gX4_takeFirst_X4_checkSide : GoodIn wsX4_takeFirst (wsV RX4 23 RX4 yX4_checkSide wsX4_checkSide) := goodIn_app (goodIn_of _ (by decide +kernel)) ggX4_takeFirst_X4_checkSide
set_option maxRecDepth 20000 in
theorem ggX4_takeFirst_X4_sideOf : GoodIn wsX4_takeFirst wsX4_sideOf := goodIn_r _ [13, 14, 15, 37, 38, 39] (by decide +kernel) (by decide +kernel)
set_option maxRecDepth 20000 in
theorem gX4_takeFirst_X4_sideOf : GoodIn wsX4_takeFirst (wsV RX4 27 RX4 yX4_sideOf wsX4_sideOf) := goodIn_app (goodIn_of _ (by decide +kernel)) ggX4_takeFirst_X4_sideOf
set_option maxRecDepth 20000 in
theorem ggX4_takeFirst_X3_removeFirst : GoodIn wsX4_takeFirst wsX3_removeFirst := goodIn_r _ [20, 21, 22, 23, 24, 25, 19, 26, 35, 36] (by decide +kernel) (by decide +kernel)
set_option maxRecDepth 20000 in
theorem gX4_takeFirst_X3_removeFirst : GoodIn wsX4_takeFirst (wsV RX4 163 RX3 yX3_removeFirst wsX3_removeFirst) := goodIn_app (goodIn_of _ (by decide +kernel)) ggX4_takeFirst_X3_removeFirst
theorem dX4_takeFirst_0 : decode cX4_takeFirst 0 = .ok (.aload_n 0, 1) := by decide +kernel
theorem dX4_takeFirst_1 : decode cX4_takeFirst 1 = .ok (.iload_n 1, 1) := by decide +kernel
theorem dX4_takeFirst_2 : decode cX4_takeFirst 2 = .ok (.invokevirtual 23, 3) := by decide +kernel
theorem dX4_takeFirst_5 : decode cX4_takeFirst 5 = .ok (.aload_n 0, 1) := by decide +kernel
theorem dX4_takeFirst_6 : decode cX4_takeFirst 6 = .ok (.iload_n 1, 1) := by decide +kernel
theorem dX4_takeFirst_7 : decode cX4_takeFirst 7 = .ok (.invokevirtual 27, 3) := by decide +kernel
theorem dX4_takeFirst_10 : decode cX4_takeFirst 10 = .ok (.getfield 110, 3) := by decide +kernel
theorem dX4_takeFirst_13 : decode cX4_takeFirst 13 = .ok (.astore_n 2, 1) := by decide +kernel
theorem dX4_takeFirst_14 : decode cX4_takeFirst 14 = .ok (.aload_n 2, 1) := by decide +kernel
theorem dX4_takeFirst_15 : decode cX4_takeFirst 15 = .ok (.getfield 114, 3) := by decide +kernel
theorem dX4_takeFirst_18 : decode cX4_takeFirst 18 = .ok (.ifCond .ne 11, 3) := by decide +kernel
theorem dX4_takeFirst_21 : decode cX4_takeFirst 21 = .ok (.new 44, 3) := by decide +kernel
theorem dX4_takeFirst_24 : decode cX4_takeFirst 24 = .ok (.dup, 1) := by decide +kernel
theorem dX4_takeFirst_25 : decode cX4_takeFirst 25 = .ok (.invokespecial 46, 3) := by decide +kernel
theorem dX4_takeFirst_28 : decode cX4_takeFirst 28 = .ok (.athrow, 1) := by decide +kernel
theorem dX4_takeFirst_29 : decode cX4_takeFirst 29 = .ok (.aload_n 2, 1) := by decide +kernel
theorem dX4_takeFirst_30 : decode cX4_takeFirst 30 = .ok (.invokevirtual 163, 3) := by decide +kernel
theorem dX4_takeFirst_33 : decode cX4_takeFirst 33 = .ok (.ireturn, 1) := by decide +kernel
set_option maxRecDepth 20000 in
theorem ggX4_putOnWire_X4_sideOf : GoodIn wsX4_putOnWire wsX4_sideOf := goodIn_r _ [6, 7, 8, 20, 21, 22] (by decide +kernel) (by decide +kernel)
set_option maxRecDepth 20000 in
theorem gX4_putOnWire_X4_sideOf : GoodIn wsX4_putOnWire (wsV RX4 27 RX4 yX4_sideOf wsX4_sideOf) := goodIn_app (goodIn_of _ (by decide +kernel)) ggX4_putOnWire_X4_sideOf
set_option maxRecDepth 20000 in
theorem ggX4_putOnWire_X4_otherOf : GoodIn wsX4_putOnWire wsX4_otherOf := goodIn_r _ [12, 8, 7, 20, 21, 22] (by decide +kernel) (by decide +kernel)
set_option maxRecDepth 20000 in
theorem gX4_putOnWire_X4_otherOf : GoodIn wsX4_putOnWire (wsV RX4 149 RX4 yX4_otherOf wsX4_otherOf) := goodIn_app (goodIn_of _ (by decide +kernel)) ggX4_putOnWire_X4_otherOf
set_option maxRecDepth 20000 in
theorem ggX4_putOnWire_X3_put : GoodIn wsX4_putOnWire wsX3_put := goodIn_r _ [17, 18, 19, 31, 32] (by decide +kernel) (by decide +kernel)
set_option maxRecDepth 20000 in
theorem gX4_putOnWire_X3_put : GoodIn wsX4_putOnWire (wsV RX4 169 RX3 yX3_put wsX3_put) := goodIn_app (goodIn_of _ (by decide +kernel)) ggX4_putOnWire_X3_put
theorem dX4_putOnWire_0 : decode cX4_putOnWire 0 = .ok (.aload_n 0, 1) := by decide +kernel
theorem dX4_putOnWire_1 : decode cX4_putOnWire 1 = .ok (.iload_n 1, 1) := by decide +kernel
theorem dX4_putOnWire_2 : decode cX4_putOnWire 2 = .ok (.invokevirtual 27, 3) := by decide +kernel
theorem dX4_putOnWire_5 : decode cX4_putOnWire 5 = .ok (.aload_n 0, 1) := by decide +kernel
theorem dX4_putOnWire_6 : decode cX4_putOnWire 6 = .ok (.getfield 19, 3) := by decide +kernel
theorem dX4_putOnWire_9 : decode cX4_putOnWire 9 = .ok (.putfield 166, 3) := by decide +kernel
theorem dX4_putOnWire_12 : decode cX4_putOnWire 12 = .ok (.aload_n 0, 1) := by decide +kernel
theorem dX4_putOnWire_13 : decode cX4_putOnWire 13 = .ok (.iload_n 1, 1) := by decide +kernel
theorem dX4_putOnWire_14 : decode cX4_putOnWire 14 = .ok (.invokevirtual 149, 3) := by decide +kernel
theorem dX4_putOnWire_17 : decode cX4_putOnWire 17 = .ok (.getfield 110, 3) := by decide +kernel
theorem dX4_putOnWire_20 : decode cX4_putOnWire 20 = .ok (.iload_n 2, 1) := by decide +kernel
theorem dX4_putOnWire_21 : decode cX4_putOnWire 21 = .ok (.invokevirtual 169, 3) := by decide +kernel
theorem dX4_putOnWire_24 : decode cX4_putOnWire 24 = .ok (.return_, 1) := by decide +kernel
set_option maxRecDepth 20000 in
theorem ggX4_sendNew_X4_sideOf : GoodIn wsX4_sendNew wsX4_sideOf := goodIn_r _ [5, 6, 7, 53, 54, 55] (by decide +kernel) (by decide +kernel)
set_option maxRecDepth 20000 in
theorem gX4_sendNew_X4_sideOf : GoodIn wsX4_sendNew (wsV RX4 27 RX4 yX4_sideOf wsX4_sideOf) := goodIn_app (goodIn_of _ (by decide +kernel)) ggX4_sendNew_X4_sideOf
set_option maxRecDepth 20000 in
theorem ggX4_sendNew_X2_isFull : GoodIn wsX4_sendNew wsX2_isFull := goodIn_r _ [12, 13, 47, 48, 49, 50, 51, 52] (by decide +kernel) (by decide +kernel)
set_option maxRecDepth 20000 in
theorem gX4_sendNew_X2_isFull : GoodIn wsX4_sendNew (wsV RX4 38 RX2 yX2_isFull wsX2_isFull) := goodIn_app (goodIn_of _ (by decide +kernel)) ggX4_sendNew_X2_isFull
set_option maxRecDepth 20000 in
theorem ggX4_sendNew_X0_of : GoodIn wsX4_sendNew wsX0_of := goodIn_r _ [17] (by decide +kernel) (by decide +kernel)
set_option maxRecDepth 20000 in
theorem gX4_sendNew_X0_of : GoodIn wsX4_sendNew (va_wsS RX4 172 yX0_of wsX0_of) := goodIn_app (goodIn_of _ (by decide +kernel)) ggX4_sendNew_X0_of
set_option maxRecDepth 20000 in
theorem ggX4_sendNew_X2_keep : GoodIn wsX4_sendNew wsX2_keep := goodIn_r _ [21, 13, 22, 47, 48, 49, 50, 51, 52] (by decide +kernel) (by decide +kernel)
set_option maxRecDepth 20000 in
theorem gX4_sendNew_X2_keep : GoodIn wsX4_sendNew (wsV RX4 175 RX2 yX2_keep wsX2_keep) := goodIn_app (goodIn_of _ (by decide +kernel)) ggX4_sendNew_X2_keep
set_option maxRecDepth 20000 in
theorem ggX4_sendNew_X4_putOnWire : GoodIn wsX4_sendNew wsX4_putOnWire := goodIn_r _ [26, 27, 1, 2, 3, 4, 5, 6, 7, 28, 29, 30, 31, 32, 33, 34, 35, 36, 37, 38, 53, 54, 55, 39, 40, 41, 42, 43, 44, 45, 46, 56, 57] (by decide +kernel) (by decide +kernel)
set_option maxRecDepth 20000 in
theorem gX4_sendNew_X4_putOnWire : GoodIn wsX4_sendNew (wsV RX4 178 RX4 yX4_putOnWire wsX4_putOnWire) := goodIn_app (goodIn_of _ (by decide +kernel)) ggX4_sendNew_X4_putOnWire
theorem dX4_sendNew_0 : decode cX4_sendNew 0 = .ok (.aload_n 0, 1) := by decide +kernel
theorem dX4_sendNew_1 : decode cX4_sendNew 1 = .ok (.iload_n 1, 1) := by decide +kernel
theorem dX4_sendNew_2 : decode cX4_sendNew 2 = .ok (.invokevirtual 27, 3) := by decide +kernel
theorem dX4_sendNew_5 : decode cX4_sendNew 5 = .ok (.getfield 34, 3) := by decide +kernel
theorem dX4_sendNew_8 : decode cX4_sendNew 8 = .ok (.astore 5, 2) := by decide +kernel
theorem dX4_sendNew_10 : decode cX4_sendNew 10 = .ok (.aload 5, 2) := by decide +kernel
theorem dX4_sendNew_12 : decode cX4_sendNew 12 = .ok (.invokevirtual 38, 3) := by decide +kernel
theorem dX4_sendNew_15 : decode cX4_sendNew 15 = .ok (.ifCond .eq 5, 3) := by decide +kernel
theorem dX4_sendNew_18 : decode cX4_sendNew 18 = .ok (.iconst (-1), 1) := by decide +kernel
theorem dX4_sendNew_19 : decode cX4_sendNew 19 = .ok (.ireturn, 1) := by decide +kernel
theorem dX4_sendNew_20 : decode cX4_sendNew 20 = .ok (.aload 5, 2) := by decide +kernel
theorem dX4_sendNew_22 : decode cX4_sendNew 22 = .ok (.getfield 63, 3) := by decide +kernel
theorem dX4_sendNew_25 : decode cX4_sendNew 25 = .ok (.iconst 1, 1) := by decide +kernel
theorem dX4_sendNew_26 : decode cX4_sendNew 26 = .ok (.iadd, 1) := by decide +kernel
theorem dX4_sendNew_27 : decode cX4_sendNew 27 = .ok (.istore 6, 2) := by decide +kernel
theorem dX4_sendNew_29 : decode cX4_sendNew 29 = .ok (.iload 6, 2) := by decide +kernel
theorem dX4_sendNew_31 : decode cX4_sendNew 31 = .ok (.iload_n 2, 1) := by decide +kernel
theorem dX4_sendNew_32 : decode cX4_sendNew 32 = .ok (.iload_n 3, 1) := by decide +kernel
theorem dX4_sendNew_33 : decode cX4_sendNew 33 = .ok (.iload 4, 2) := by decide +kernel
theorem dX4_sendNew_35 : decode cX4_sendNew 35 = .ok (.invokestatic 172, 3) := by decide +kernel
theorem dX4_sendNew_38 : decode cX4_sendNew 38 = .ok (.istore 7, 2) := by decide +kernel
theorem dX4_sendNew_40 : decode cX4_sendNew 40 = .ok (.aload 5, 2) := by decide +kernel
theorem dX4_sendNew_42 : decode cX4_sendNew 42 = .ok (.iload 7, 2) := by decide +kernel
theorem dX4_sendNew_44 : decode cX4_sendNew 44 = .ok (.invokevirtual 175, 3) := by decide +kernel
theorem dX4_sendNew_47 : decode cX4_sendNew 47 = .ok (.aload_n 0, 1) := by decide +kernel
theorem dX4_sendNew_48 : decode cX4_sendNew 48 = .ok (.iload_n 1, 1) := by decide +kernel
theorem dX4_sendNew_49 : decode cX4_sendNew 49 = .ok (.iload 7, 2) := by decide +kernel
theorem dX4_sendNew_51 : decode cX4_sendNew 51 = .ok (.invokevirtual 178, 3) := by decide +kernel
theorem dX4_sendNew_54 : decode cX4_sendNew 54 = .ok (.iload 6, 2) := by decide +kernel
theorem dX4_sendNew_56 : decode cX4_sendNew 56 = .ok (.ireturn, 1) := by decide +kernel
set_option maxRecDepth 20000 in
theorem ggX4_receive_X4_sideOf : GoodIn wsX4_receive wsX4_sideOf := goodIn_r _ [5, 6, 7, 135, 136, 137] (by decide +kernel) (by decide +kernel)
set_option maxRecDepth 20000 in
theorem gX4_receive_X4_sideOf : GoodIn wsX4_receive (wsV RX4 27 RX4 yX4_sideOf wsX4_sideOf) := goodIn_app (goodIn_of _ (by decide +kernel)) ggX4_receive_X4_sideOf
set_option maxRecDepth 20000 in
theorem ggX4_receive_X0_kindOf : GoodIn wsX4_receive wsX0_kindOf := goodIn_r _ [11] (by decide +kernel) (by decide +kernel)
set_option maxRecDepth 20000 in
theorem gX4_receive_X0_kindOf : GoodIn wsX4_receive (va_wsS RX4 97 yX0_kindOf wsX0_kindOf) := goodIn_app (goodIn_of _ (by decide +kernel)) ggX4_receive_X0_kindOf
set_option maxRecDepth 20000 in
theorem ggX4_receive_X0_numberOf : GoodIn wsX4_receive wsX0_numberOf := goodIn_r _ [14] (by decide +kernel) (by decide +kernel)
set_option maxRecDepth 20000 in
theorem gX4_receive_X0_numberOf : GoodIn wsX4_receive (va_wsS RX4 123 yX0_numberOf wsX0_numberOf) := goodIn_app (goodIn_of _ (by decide +kernel)) ggX4_receive_X0_numberOf
set_option maxRecDepth 20000 in
theorem ggX4_receive_X4_refuseLow : GoodIn wsX4_receive wsX4_refuseLow := goodIn_r _ [18, 19, 20, 21, 10, 22, 23, 24, 25, 26, 27, 28, 29, 121, 122, 123, 124, 125, 126, 127, 128, 129, 130, 131, 132, 133, 134] (by decide +kernel) (by decide +kernel)
set_option maxRecDepth 20000 in
theorem gX4_receive_X4_refuseLow : GoodIn wsX4_receive (wsV RX4 181 RX4 yX4_refuseLow wsX4_refuseLow) := goodIn_app (goodIn_of _ (by decide +kernel)) ggX4_receive_X4_refuseLow
set_option maxRecDepth 20000 in
theorem ggX4_receive_X0_toldBy : GoodIn wsX4_receive wsX0_toldBy := goodIn_r _ [32] (by decide +kernel) (by decide +kernel)
set_option maxRecDepth 20000 in
theorem gX4_receive_X0_toldBy : GoodIn wsX4_receive (va_wsS RX4 83 yX0_toldBy wsX0_toldBy) := goodIn_app (goodIn_of _ (by decide +kernel)) ggX4_receive_X0_toldBy
set_option maxRecDepth 20000 in
theorem ggX4_receive_X4_answerLogon : GoodIn wsX4_receive wsX4_answerLogon := goodIn_r _ [36, 37, 1, 2, 3, 4, 5, 6, 7, 20, 21, 10, 22, 38, 39, 40, 41, 42, 43, 44, 45, 46, 47, 48, 49, 50, 51, 52, 53, 54, 55, 56, 57, 58, 59, 60, 61, 62, 63, 64, 65, 66, 67, 68, 69, 70, 71, 121, 122, 123, 124, 125, 126, 127, 128, 135, 136, 137, 129, 130, 131, 132, 133, 134, 138, 139] (by decide +kernel) (by decide +kernel)
set_option maxRecDepth 20000 in
theorem gX4_receive_X4_answerLogon : GoodIn wsX4_receive (wsV RX4 185 RX4 yX4_answerLogon wsX4_answerLogon) := goodIn_app (goodIn_of _ (by decide +kernel)) ggX4_receive_X4_answerLogon
set_option maxRecDepth 20000 in
theorem ggX4_receive_X4_answerResend : GoodIn wsX4_receive wsX4_answerResend := goodIn_r _ [75, 76, 77, 78, 79, 19, 1, 2, 3, 4, 5, 6, 7, 80, 81, 82, 45, 83, 47, 84, 85, 86, 87, 55, 88, 9, 10, 11, 89, 90, 91, 92, 48, 49, 50, 56, 57, 58, 59, 60, 61, 62, 63, 64, 65, 66, 67, 68, 69, 70, 71, 93, 121, 122, 123, 124, 125, 126, 127, 128, 129, 130, 131, 132, 133, 134, 135, 136, 137, 138, 139] (by decide +kernel) (by decide +kernel)
set_option maxRecDepth 20000 in
theorem gX4_receive_X4_answerResend : GoodIn wsX4_receive (wsV RX4 188 RX4 yX4_answerResend wsX4_answerResend) := goodIn_app (goodIn_of _ (by decide +kernel)) ggX4_receive_X4_answerResend
set_option maxRecDepth 20000 in
theorem ggX4_receive_X4_handle : GoodIn wsX4_receive wsX4_handle := goodIn_r _ [97, 1, 2, 3, 4, 5, 6, 7, 8, 9, 10, 11, 38, 39, 40, 41, 42, 43, 44, 45, 46, 47, 48, 49, 50, 51, 52, 53, 54, 55, 56, 57, 58, 59, 60, 61, 62, 63, 64, 65, 66, 67, 68, 69, 70, 71, 23, 24, 25, 26, 27, 28, 29, 98, 99, 100, 101, 102, 30, 31, 32, 20, 21, 22, 103, 104, 105, 106, 107, 108, 109, 110, 111, 112, 113, 114, 115, 116, 121, 122, 123, 124, 125, 126, 127, 128, 135, 136, 137, 129, 130, 131, 132, 133, 134, 138, 139] (by decide +kernel) (by decide +kernel)
set_option maxRecDepth 20000 in
theorem gX4_receive_X4_handle : GoodIn wsX4_receive (wsV RX4 191 RX4 yX4_handle wsX4_handle) := goodIn_app (goodIn_of _ (by decide +kernel)) ggX4_receive_X4_handle
set_option maxRecDepth 20000 in
theorem ggX4_receive_X4_askForResend : GoodIn wsX4_receive wsX4_askForResend := goodIn_r _ [120, 60, 1, 2, 3, 4, 5, 6, 7, 38, 39, 40, 41, 42, 43, 44, 45, 46, 47, 48, 49, 10, 50, 51, 52, 53, 54, 55, 56, 57, 58, 59, 61, 62, 63, 64, 65, 66, 67, 68, 69, 70, 71, 121, 122, 123, 124, 125, 126, 127, 128, 129, 130, 131, 132, 133, 134, 135, 136, 137, 138, 139] (by decide +kernel) (by decide +kernel)
set_option maxRecDepth 20000 in
theorem gX4_receive_X4_askForResend : GoodIn wsX4_receive (wsV RX4 194 RX4 yX4_askForResend wsX4_askForResend) := goodIn_app (goodIn_of _ (by decide +kernel)) ggX4_receive_X4_askForResend
theorem dX4_receive_0 : decode cX4_receive 0 = .ok (.aload_n 0, 1) := by decide +kernel
theorem dX4_receive_1 : decode cX4_receive 1 = .ok (.iload_n 1, 1) := by decide +kernel
theorem dX4_receive_2 : decode cX4_receive 2 = .ok (.invokevirtual 27, 3) := by decide +kernel
theorem dX4_receive_5 : decode cX4_receive 5 = .ok (.astore_n 3, 1) := by decide +kernel
theorem dX4_receive_6 : decode cX4_receive 6 = .ok (.iload_n 2, 1) := by decide +kernel
theorem dX4_receive_7 : decode cX4_receive 7 = .ok (.invokestatic 97, 3) := by decide +kernel
theorem dX4_receive_10 : decode cX4_receive 10 = .ok (.istore 4, 2) := by decide +kernel
theorem dX4_receive_12 : decode cX4_receive 12 = .ok (.iload 4, 2) := by decide +kernel
theorem dX4_receive_14 : decode cX4_receive 14 = .ok (.ifCond .eq 12, 3) := by decide +kernel
theorem dX4_receive_17 : decode cX4_receive 17 = .ok (.aload_n 3, 1) := by decide +kernel
theorem dX4_receive_18 : decode cX4_receive 18 = .ok (.getfield 31, 3) := by decide +kernel
theorem dX4_receive_21 : decode cX4_receive 21 = .ok (.iconst 2, 1) := by decide +kernel
theorem dX4_receive_22 : decode cX4_receive 22 = .ok (.if_icmp .eq 4, 3) := by decide +kernel
theorem dX4_receive_25 : decode cX4_receive 25 = .ok (.return_, 1) := by decide +kernel
theorem dX4_receive_26 : decode cX4_receive 26 = .ok (.iload_n 2, 1) := by decide +kernel
theorem dX4_receive_27 : decode cX4_receive 27 = .ok (.invokestatic 123, 3) := by decide +kernel
theorem dX4_receive_30 : decode cX4_receive 30 = .ok (.istore 5, 2) := by decide +kernel
theorem dX4_receive_32 : decode cX4_receive 32 = .ok (.iload 5, 2) := by decide +kernel
theorem dX4_receive_34 : decode cX4_receive 34 = .ok (.aload_n 3, 1) := by decide +kernel
theorem dX4_receive_35 : decode cX4_receive 35 = .ok (.getfield 34, 3) := by decide +kernel
theorem dX4_receive_38 : decode cX4_receive 38 = .ok (.getfield 103, 3) := by decide +kernel
theorem dX4_receive_41 : decode cX4_receive 41 = .ok (.if_icmp .ge 10, 3) := by decide +kernel
theorem dX4_receive_44 : decode cX4_receive 44 = .ok (.aload_n 0, 1) := by decide +kernel
theorem dX4_receive_45 : decode cX4_receive 45 = .ok (.aload_n 3, 1) := by decide +kernel
theorem dX4_receive_46 : decode cX4_receive 46 = .ok (.iload_n 2, 1) := by decide +kernel
theorem dX4_receive_47 : decode cX4_receive 47 = .ok (.invokevirtual 181, 3) := by decide +kernel
theorem dX4_receive_50 : decode cX4_receive 50 = .ok (.return_, 1) := by decide +kernel
theorem dX4_receive_51 : decode cX4_receive 51 = .ok (.iload 5, 2) := by decide +kernel
theorem dX4_receive_53 : decode cX4_receive 53 = .ok (.aload_n 3, 1) := by decide +kernel
theorem dX4_receive_54 : decode cX4_receive 54 = .ok (.getfield 34, 3) := by decide +kernel
theorem dX4_receive_57 : decode cX4_receive 57 = .ok (.getfield 103, 3) := by decide +kernel
theorem dX4_receive_60 : decode cX4_receive 60 = .ok (.if_icmp .le 7, 3) := by decide +kernel
theorem dX4_receive_63 : decode cX4_receive 63 = .ok (.iconst 1, 1) := by decide +kernel
theorem dX4_receive_64 : decode cX4_receive 64 = .ok (.goto 4, 3) := by decide +kernel
theorem dX4_receive_67 : decode cX4_receive 67 = .ok (.iconst 0, 1) := by decide +kernel
theorem dX4_receive_68 : decode cX4_receive 68 = .ok (.istore 6, 2) := by decide +kernel
theorem dX4_receive_70 : decode cX4_receive 70 = .ok (.iload 6, 2) := by decide +kernel
theorem dX4_receive_72 : decode cX4_receive 72 = .ok (.ifCond .ne 32, 3) := by decide +kernel
theorem dX4_receive_75 : decode cX4_receive 75 = .ok (.aload_n 3, 1) := by decide +kernel
theorem dX4_receive_76 : decode cX4_receive 76 = .ok (.iconst 0, 1) := by decide +kernel
theorem dX4_receive_77 : decode cX4_receive 77 = .ok (.putfield 106, 3) := by decide +kernel
theorem dX4_receive_80 : decode cX4_receive 80 = .ok (.aload_n 3, 1) := by decide +kernel
theorem dX4_receive_81 : decode cX4_receive 81 = .ok (.getfield 34, 3) := by decide +kernel
theorem dX4_receive_84 : decode cX4_receive 84 = .ok (.iload 4, 2) := by decide +kernel
theorem dX4_receive_86 : decode cX4_receive 86 = .ok (.iconst 4, 1) := by decide +kernel
theorem dX4_receive_87 : decode cX4_receive 87 = .ok (.if_icmp .ne 10, 3) := by decide +kernel
theorem dX4_receive_90 : decode cX4_receive 90 = .ok (.iload_n 2, 1) := by decide +kernel
theorem dX4_receive_91 : decode cX4_receive 91 = .ok (.invokestatic 83, 3) := by decide +kernel
theorem dX4_receive_94 : decode cX4_receive 94 = .ok (.goto 7, 3) := by decide +kernel
theorem dX4_receive_97 : decode cX4_receive 97 = .ok (.iload 5, 2) := by decide +kernel
theorem dX4_receive_99 : decode cX4_receive 99 = .ok (.iconst 1, 1) := by decide +kernel
theorem dX4_receive_100 : decode cX4_receive 100 = .ok (.iadd, 1) := by decide +kernel
theorem dX4_receive_101 : decode cX4_receive 101 = .ok (.putfield 103, 3) := by decide +kernel
theorem dX4_receive_104 : decode cX4_receive 104 = .ok (.iload 4, 2) := by decide +kernel
theorem dX4_receive_106 : decode cX4_receive 106 = .ok (.ifCond .ne 12, 3) := by decide +kernel
theorem dX4_receive_109 : decode cX4_receive 109 = .ok (.aload_n 0, 1) := by decide +kernel
theorem dX4_receive_110 : decode cX4_receive 110 = .ok (.iload_n 1, 1) := by decide +kernel
theorem dX4_receive_111 : decode cX4_receive 111 = .ok (.iload_n 2, 1) := by decide +kernel
theorem dX4_receive_112 : decode cX4_receive 112 = .ok (.invokevirtual 185, 3) := by decide +kernel
theorem dX4_receive_115 : decode cX4_receive 115 = .ok (.goto 32, 3) := by decide +kernel
theorem dX4_receive_118 : decode cX4_receive 118 = .ok (.iload 4, 2) := by decide +kernel
theorem dX4_receive_120 : decode cX4_receive 120 = .ok (.iconst 3, 1) := by decide +kernel
theorem dX4_receive_121 : decode cX4_receive 121 = .ok (.if_icmp .ne 15, 3) := by decide +kernel
theorem dX4_receive_124 : decode cX4_receive 124 = .ok (.aload_n 0, 1) := by decide +kernel
theorem dX4_receive_125 : decode cX4_receive 125 = .ok (.iload_n 1, 1) := by decide +kernel
theorem dX4_receive_126 : decode cX4_receive 126 = .ok (.iload_n 2, 1) := by decide +kernel
theorem dX4_receive_127 : decode cX4_receive 127 = .ok (.invokestatic 83, 3) := by decide +kernel
theorem dX4_receive_130 : decode cX4_receive 130 = .ok (.invokevirtual 188, 3) := by decide +kernel
theorem dX4_receive_133 : decode cX4_receive 133 = .ok (.goto 14, 3) := by decide +kernel
theorem dX4_receive_136 : decode cX4_receive 136 = .ok (.iload 6, 2) := by decide +kernel
theorem dX4_receive_138 : decode cX4_receive 138 = .ok (.ifCond .ne 9, 3) := by decide +kernel
theorem dX4_receive_141 : decode cX4_receive 141 = .ok (.aload_n 0, 1) := by decide +kernel
theorem dX4_receive_142 : decode cX4_receive 142 = .ok (.iload_n 1, 1) := by decide +kernel
theorem dX4_receive_143 : decode cX4_receive 143 = .ok (.iload_n 2, 1) := by decide +kernel
theorem dX4_receive_144 : decode cX4_receive 144 = .ok (.invokevirtual 191, 3) := by decide +kernel
theorem dX4_receive_147 : decode cX4_receive 147 = .ok (.iload 6, 2) := by decide +kernel
theorem dX4_receive_149 : decode cX4_receive 149 = .ok (.ifCond .eq 8, 3) := by decide +kernel
theorem dX4_receive_152 : decode cX4_receive 152 = .ok (.aload_n 0, 1) := by decide +kernel
theorem dX4_receive_153 : decode cX4_receive 153 = .ok (.iload_n 1, 1) := by decide +kernel
theorem dX4_receive_154 : decode cX4_receive 154 = .ok (.invokevirtual 194, 3) := by decide +kernel
theorem dX4_receive_157 : decode cX4_receive 157 = .ok (.return_, 1) := by decide +kernel
set_option maxRecDepth 20000 in
theorem ggX4_refuseLow_X0_isMarked : GoodIn wsX4_refuseLow wsX0_isMarked := goodIn_r _ [5] (by decide +kernel) (by decide +kernel)
set_option maxRecDepth 20000 in
theorem gX4_refuseLow_X0_isMarked : GoodIn wsX4_refuseLow (va_wsS RX4 198 yX0_isMarked wsX0_isMarked) := goodIn_app (goodIn_of _ (by decide +kernel)) ggX4_refuseLow_X0_isMarked
set_option maxRecDepth 20000 in
theorem ggX4_refuseLow_X1_turnOff : GoodIn wsX4_refuseLow wsX1_turnOff := goodIn_r _ [10, 11, 12, 13, 14, 15, 16, 17, 18, 19, 20] (by decide +kernel) (by decide +kernel)
set_option maxRecDepth 20000 in
theorem gX4_refuseLow_X1_turnOff : GoodIn wsX4_refuseLow (wsV RX4 60 RX1 yX1_turnOff wsX1_turnOff) := goodIn_app (goodIn_of _ (by decide +kernel)) ggX4_refuseLow_X1_turnOff
theorem dX4_refuseLow_0 : decode cX4_refuseLow 0 = .ok (.iload_n 2, 1) := by decide +kernel
theorem dX4_refuseLow_1 : decode cX4_refuseLow 1 = .ok (.ldc 197, 2) := by decide +kernel
theorem dX4_refuseLow_3 : decode cX4_refuseLow 3 = .ok (.invokestatic 198, 3) := by decide +kernel
theorem dX4_refuseLow_6 : decode cX4_refuseLow 6 = .ok (.ifCond .eq 19, 3) := by decide +kernel
theorem dX4_refuseLow_9 : decode cX4_refuseLow 9 = .ok (.aload_n 1, 1) := by decide +kernel
theorem dX4_refuseLow_10 : decode cX4_refuseLow 10 = .ok (.getfield 34, 3) := by decide +kernel
theorem dX4_refuseLow_13 : decode cX4_refuseLow 13 = .ok (.dup, 1) := by decide +kernel
theorem dX4_refuseLow_14 : decode cX4_refuseLow 14 = .ok (.getfield 146, 3) := by decide +kernel
theorem dX4_refuseLow_17 : decode cX4_refuseLow 17 = .ok (.iconst 1, 1) := by decide +kernel
theorem dX4_refuseLow_18 : decode cX4_refuseLow 18 = .ok (.iadd, 1) := by decide +kernel
theorem dX4_refuseLow_19 : decode cX4_refuseLow 19 = .ok (.putfield 146, 3) := by decide +kernel
theorem dX4_refuseLow_22 : decode cX4_refuseLow 22 = .ok (.goto 7, 3) := by decide +kernel
theorem dX4_refuseLow_25 : decode cX4_refuseLow 25 = .ok (.aload_n 1, 1) := by decide +kernel
theorem dX4_refuseLow_26 : decode cX4_refuseLow 26 = .ok (.invokevirtual 60, 3) := by decide +kernel
theorem dX4_refuseLow_29 : decode cX4_refuseLow 29 = .ok (.return_, 1) := by decide +kernel
set_option maxRecDepth 20000 in
theorem ggX4_answerLogon_X4_sideOf : GoodIn wsX4_answerLogon wsX4_sideOf := goodIn_r _ [6, 7, 8, 55, 56, 57] (by decide +kernel) (by decide +kernel)
set_option maxRecDepth 20000 in
theorem gX4_answerLogon_X4_sideOf : GoodIn wsX4_answerLogon (wsV RX4 27 RX4 yX4_sideOf wsX4_sideOf) := goodIn_app (goodIn_of _ (by decide +kernel)) ggX4_answerLogon_X4_sideOf
set_option maxRecDepth 20000 in
theorem ggX4_answerLogon_X0_isMarked : GoodIn wsX4_answerLogon wsX0_isMarked := goodIn_r _ [12] (by decide +kernel) (by decide +kernel)
set_option maxRecDepth 20000 in
theorem gX4_answerLogon_X0_isMarked : GoodIn wsX4_answerLogon (va_wsS RX4 198 yX0_isMarked wsX0_isMarked) := goodIn_app (goodIn_of _ (by decide +kernel)) ggX4_answerLogon_X0_isMarked
set_option maxRecDepth 20000 in
theorem ggX4_answerLogon_X4_sendNew : GoodIn wsX4_answerLogon wsX4_sendNew := goodIn_r _ [16, 2, 3, 4, 5, 6, 7, 8, 17, 18, 19, 20, 21, 22, 23, 24, 11, 25, 26, 27, 28, 29, 30, 31, 32, 33, 34, 35, 36, 37, 38, 39, 40, 41, 42, 43, 44, 45, 46, 47, 48, 49, 50, 51, 52, 53, 54, 58, 59, 60, 61, 62, 63, 55, 56, 57, 64, 65] (by decide +kernel) (by decide +kernel)
set_option maxRecDepth 20000 in
theorem gX4_answerLogon_X4_sendNew : GoodIn wsX4_answerLogon (wsV RX4 53 RX4 yX4_sendNew wsX4_sendNew) := goodIn_app (goodIn_of _ (by decide +kernel)) ggX4_answerLogon_X4_sendNew
theorem dX4_answerLogon_0 : decode cX4_answerLogon 0 = .ok (.aload_n 0, 1) := by decide +kernel
theorem dX4_answerLogon_1 : decode cX4_answerLogon 1 = .ok (.iload_n 1, 1) := by decide +kernel
theorem dX4_answerLogon_2 : decode cX4_answerLogon 2 = .ok (.invokevirtual 27, 3) := by decide +kernel
theorem dX4_answerLogon_5 : decode cX4_answerLogon 5 = .ok (.astore_n 3, 1) := by decide +kernel
theorem dX4_answerLogon_6 : decode cX4_answerLogon 6 = .ok (.iload_n 2, 1) := by decide +kernel
theorem dX4_answerLogon_7 : decode cX4_answerLogon 7 = .ok (.ldc 52, 2) := by decide +kernel
theorem dX4_answerLogon_9 : decode cX4_answerLogon 9 = .ok (.invokestatic 198, 3) := by decide +kernel
theorem dX4_answerLogon_12 : decode cX4_answerLogon 12 = .ok (.ifCond .eq 25, 3) := by decide +kernel
theorem dX4_answerLogon_15 : decode cX4_answerLogon 15 = .ok (.aload_n 3, 1) := by decide +kernel
theorem dX4_answerLogon_16 : decode cX4_answerLogon 16 = .ok (.iconst 2, 1) := by decide +kernel
theorem dX4_answerLogon_17 : decode cX4_answerLogon 17 = .ok (.putfield 31, 3) := by decide +kernel
theorem dX4_answerLogon_20 : decode cX4_answerLogon 20 = .ok (.aload_n 3, 1) := by decide +kernel
theorem dX4_answerLogon_21 : decode cX4_answerLogon 21 = .ok (.iconst 0, 1) := by decide +kernel
theorem dX4_answerLogon_22 : decode cX4_answerLogon 22 = .ok (.putfield 106, 3) := by decide +kernel
theorem dX4_answerLogon_25 : decode cX4_answerLogon 25 = .ok (.aload_n 0, 1) := by decide +kernel
theorem dX4_answerLogon_26 : decode cX4_answerLogon 26 = .ok (.iload_n 1, 1) := by decide +kernel
theorem dX4_answerLogon_27 : decode cX4_answerLogon 27 = .ok (.iconst 0, 1) := by decide +kernel
theorem dX4_answerLogon_28 : decode cX4_answerLogon 28 = .ok (.iconst 0, 1) := by decide +kernel
theorem dX4_answerLogon_29 : decode cX4_answerLogon 29 = .ok (.iconst 0, 1) := by decide +kernel
theorem dX4_answerLogon_30 : decode cX4_answerLogon 30 = .ok (.invokevirtual 53, 3) := by decide +kernel
theorem dX4_answerLogon_33 : decode cX4_answerLogon 33 = .ok (.pop, 1) := by decide +kernel
theorem dX4_answerLogon_34 : decode cX4_answerLogon 34 = .ok (.goto 16, 3) := by decide +kernel
theorem dX4_answerLogon_37 : decode cX4_answerLogon 37 = .ok (.aload_n 3, 1) := by decide +kernel
theorem dX4_answerLogon_38 : decode cX4_answerLogon 38 = .ok (.getfield 31, 3) := by decide +kernel
theorem dX4_answerLogon_41 : decode cX4_answerLogon 41 = .ok (.iconst 1, 1) := by decide +kernel
theorem dX4_answerLogon_42 : decode cX4_answerLogon 42 = .ok (.if_icmp .ne 8, 3) := by decide +kernel
theorem dX4_answerLogon_45 : decode cX4_answerLogon 45 = .ok (.aload_n 3, 1) := by decide +kernel
theorem dX4_answerLogon_46 : decode cX4_answerLogon 46 = .ok (.iconst 2, 1) := by decide +kernel
theorem dX4_answerLogon_47 : decode cX4_answerLogon 47 = .ok (.putfield 31, 3) := by decide +kernel
theorem dX4_answerLogon_50 : decode cX4_answerLogon 50 = .ok (.return_, 1) := by decide +kernel
set_option maxRecDepth 20000 in
theorem ggX4_handle_X4_sideOf : GoodIn wsX4_handle wsX4_sideOf := goodIn_r _ [5, 6, 7, 86, 87, 88] (by decide +kernel) (by decide +kernel)
set_option maxRecDepth 20000 in
theorem gX4_handle_X4_sideOf : GoodIn wsX4_handle (wsV RX4 27 RX4 yX4_sideOf wsX4_sideOf) := goodIn_app (goodIn_of _ (by decide +kernel)) ggX4_handle_X4_sideOf
set_option maxRecDepth 20000 in
theorem ggX4_handle_X0_kindOf : GoodIn wsX4_handle wsX0_kindOf := goodIn_r _ [11] (by decide +kernel) (by decide +kernel)
set_option maxRecDepth 20000 in
theorem gX4_handle_X0_kindOf : GoodIn wsX4_handle (va_wsS RX4 97 yX0_kindOf wsX0_kindOf) := goodIn_app (goodIn_of _ (by decide +kernel)) ggX4_handle_X0_kindOf
set_option maxRecDepth 20000 in
theorem ggX4_handle_X4_sendNew : GoodIn wsX4_handle wsX4_sendNew := goodIn_r _ [15, 1, 2, 3, 4, 5, 6, 7, 16, 17, 18, 19, 20, 21, 22, 23, 10, 24, 25, 26, 27, 28, 29, 30, 31, 32, 33, 34, 35, 36, 37, 38, 39, 40, 41, 42, 43, 44, 45, 78, 79, 80, 81, 82, 83, 84, 85, 89, 90, 91, 92, 93, 94, 86, 87, 88, 95, 96] (by decide +kernel) (by decide +kernel)
set_option maxRecDepth 20000 in
theorem gX4_handle_X4_sendNew : GoodIn wsX4_handle (wsV RX4 53 RX4 yX4_sendNew wsX4_sendNew) := goodIn_app (goodIn_of _ (by decide +kernel)) ggX4_handle_X4_sendNew
set_option maxRecDepth 20000 in
theorem ggX4_handle_X1_turnOff : GoodIn wsX4_handle wsX1_turnOff := goodIn_r _ [50, 51, 52, 78, 79, 80, 81, 82, 83, 84, 85] (by decide +kernel) (by decide +kernel)
set_option maxRecDepth 20000 in
theorem gX4_handle_X1_turnOff : GoodIn wsX4_handle (wsV RX4 60 RX1 yX1_turnOff wsX1_turnOff) := goodIn_app (goodIn_of _ (by decide +kernel)) ggX4_handle_X1_turnOff
set_option maxRecDepth 20000 in
theorem ggX4_handle_X4_handleBusiness : GoodIn wsX4_handle wsX4_handleBusiness := goodIn_r _ [56, 57, 58, 59, 10, 60, 61, 62, 63, 64, 65, 66, 19, 67, 68, 69, 70, 71, 72, 73, 74, 75, 76, 77, 89, 90, 91, 92, 93, 94] (by decide +kernel) (by decide +kernel)
set_option maxRecDepth 20000 in
theorem gX4_handle_X4_handleBusiness : GoodIn wsX4_handle (wsV RX4 202 RX4 yX4_handleBusiness wsX4_handleBusiness) := goodIn_app (goodIn_of _ (by decide +kernel)) ggX4_handle_X4_handleBusiness
theorem dX4_handle_0 : decode cX4_handle 0 = .ok (.aload_n 0, 1) := by decide +kernel
theorem dX4_handle_1 : decode cX4_handle 1 = .ok (.iload_n 1, 1) := by decide +kernel
theorem dX4_handle_2 : decode cX4_handle 2 = .ok (.invokevirtual 27, 3) := by decide +kernel
theorem dX4_handle_5 : decode cX4_handle 5 = .ok (.astore_n 3, 1) := by decide +kernel
theorem dX4_handle_6 : decode cX4_handle 6 = .ok (.iload_n 2, 1) := by decide +kernel
theorem dX4_handle_7 : decode cX4_handle 7 = .ok (.invokestatic 97, 3) := by decide +kernel
theorem dX4_handle_10 : decode cX4_handle 10 = .ok (.tableswitch 75 2 6 #[34, 75, 75, 63, 46], 34) := by decide +kernel
theorem dX4_handle_44 : decode cX4_handle 44 = .ok (.aload_n 0, 1) := by decide +kernel
theorem dX4_handle_45 : decode cX4_handle 45 = .ok (.iload_n 1, 1) := by decide +kernel
theorem dX4_handle_46 : decode cX4_handle 46 = .ok (.iconst 1, 1) := by decide +kernel
theorem dX4_handle_47 : decode cX4_handle 47 = .ok (.iconst 0, 1) := by decide +kernel
theorem dX4_handle_48 : decode cX4_handle 48 = .ok (.iconst 0, 1) := by decide +kernel
theorem dX4_handle_49 : decode cX4_handle 49 = .ok (.invokevirtual 53, 3) := by decide +kernel
theorem dX4_handle_52 : decode cX4_handle 52 = .ok (.pop, 1) := by decide +kernel
theorem dX4_handle_53 : decode cX4_handle 53 = .ok (.goto 32, 3) := by decide +kernel
theorem dX4_handle_56 : decode cX4_handle 56 = .ok (.aload_n 0, 1) := by decide +kernel
theorem dX4_handle_57 : decode cX4_handle 57 = .ok (.iload_n 1, 1) := by decide +kernel
theorem dX4_handle_58 : decode cX4_handle 58 = .ok (.bipush 6, 2) := by decide +kernel
theorem dX4_handle_60 : decode cX4_handle 60 = .ok (.iconst 0, 1) := by decide +kernel
theorem dX4_handle_61 : decode cX4_handle 61 = .ok (.iconst 0, 1) := by decide +kernel
theorem dX4_handle_62 : decode cX4_handle 62 = .ok (.invokevirtual 53, 3) := by decide +kernel
theorem dX4_handle_65 : decode cX4_handle 65 = .ok (.pop, 1) := by decide +kernel
theorem dX4_handle_66 : decode cX4_handle 66 = .ok (.aload_n 3, 1) := by decide +kernel
theorem dX4_handle_67 : decode cX4_handle 67 = .ok (.invokevirtual 60, 3) := by decide +kernel
theorem dX4_handle_70 : decode cX4_handle 70 = .ok (.goto 15, 3) := by decide +kernel
theorem dX4_handle_73 : decode cX4_handle 73 = .ok (.aload_n 0, 1) := by decide +kernel
theorem dX4_handle_74 : decode cX4_handle 74 = .ok (.aload_n 3, 1) := by decide +kernel
theorem dX4_handle_75 : decode cX4_handle 75 = .ok (.getfield 34, 3) := by decide +kernel
theorem dX4_handle_78 : decode cX4_handle 78 = .ok (.iload_n 2, 1) := by decide +kernel
theorem dX4_handle_79 : decode cX4_handle 79 = .ok (.invokevirtual 202, 3) := by decide +kernel
theorem dX4_handle_82 : decode cX4_handle 82 = .ok (.goto 3, 3) := by decide +kernel
theorem dX4_handle_85 : decode cX4_handle 85 = .ok (.return_, 1) := by decide +kernel
set_option maxRecDepth 20000 in
theorem ggX4_handleBusiness_X0_toldBy : GoodIn wsX4_handleBusiness wsX0_toldBy := goodIn_r _ [5] (by decide +kernel) (by decide +kernel)
set_option maxRecDepth 20000 in
theorem gX4_handleBusiness_X0_toldBy : GoodIn wsX4_handleBusiness (va_wsS RX4 83 yX0_toldBy wsX0_toldBy) := goodIn_app (goodIn_of _ (by decide +kernel)) ggX4_handleBusiness_X0_toldBy
set_option maxRecDepth 20000 in
theorem ggX4_handleBusiness_X0_isMarked : GoodIn wsX4_handleBusiness wsX0_isMarked := goodIn_r _ [8] (by decide +kernel) (by decide +kernel)
set_option maxRecDepth 20000 in
theorem gX4_handleBusiness_X0_isMarked : GoodIn wsX4_handleBusiness (va_wsS RX4 198 yX0_isMarked wsX0_isMarked) := goodIn_app (goodIn_of _ (by decide +kernel)) ggX4_handleBusiness_X0_isMarked
set_option maxRecDepth 20000 in
theorem ggX4_handleBusiness_X2_hasHandled : GoodIn wsX4_handleBusiness wsX2_hasHandled := goodIn_r _ [13, 14, 15, 16, 17, 12, 18, 19, 24, 25, 26, 27, 28, 29] (by decide +kernel) (by decide +kernel)
set_option maxRecDepth 20000 in
theorem gX4_handleBusiness_X2_hasHandled : GoodIn wsX4_handleBusiness (wsV RX4 206 RX2 yX2_hasHandled wsX2_hasHandled) := goodIn_app (goodIn_of _ (by decide +kernel)) ggX4_handleBusiness_X2_hasHandled
set_option maxRecDepth 20000 in
theorem ggX4_handleBusiness_X2_addKey : GoodIn wsX4_handleBusiness wsX2_addKey := goodIn_r _ [23, 14, 19, 24, 25, 26, 27, 28, 29] (by decide +kernel) (by decide +kernel)
set_option maxRecDepth 20000 in
theorem gX4_handleBusiness_X2_addKey : GoodIn wsX4_handleBusiness (wsV RX4 209 RX2 yX2_addKey wsX2_addKey) := goodIn_app (goodIn_of _ (by decide +kernel)) ggX4_handleBusiness_X2_addKey
theorem dX4_handleBusiness_0 : decode cX4_handleBusiness 0 = .ok (.iload_n 2, 1) := by decide +kernel
theorem dX4_handleBusiness_1 : decode cX4_handleBusiness 1 = .ok (.invokestatic 83, 3) := by decide +kernel
theorem dX4_handleBusiness_4 : decode cX4_handleBusiness 4 = .ok (.istore_n 3, 1) := by decide +kernel
theorem dX4_handleBusiness_5 : decode cX4_handleBusiness 5 = .ok (.iload_n 2, 1) := by decide +kernel
theorem dX4_handleBusiness_6 : decode cX4_handleBusiness 6 = .ok (.ldc 86, 2) := by decide +kernel
theorem dX4_handleBusiness_8 : decode cX4_handleBusiness 8 = .ok (.invokestatic 198, 3) := by decide +kernel
theorem dX4_handleBusiness_11 : decode cX4_handleBusiness 11 = .ok (.ifCond .eq 24, 3) := by decide +kernel
theorem dX4_handleBusiness_14 : decode cX4_handleBusiness 14 = .ok (.aload_n 1, 1) := by decide +kernel
theorem dX4_handleBusiness_15 : decode cX4_handleBusiness 15 = .ok (.iload_n 3, 1) := by decide +kernel
theorem dX4_handleBusiness_16 : decode cX4_handleBusiness 16 = .ok (.invokevirtual 206, 3) := by decide +kernel
theorem dX4_handleBusiness_19 : decode cX4_handleBusiness 19 = .ok (.ifCond .eq 16, 3) := by decide +kernel
theorem dX4_handleBusiness_22 : decode cX4_handleBusiness 22 = .ok (.aload_n 1, 1) := by decide +kernel
theorem dX4_handleBusiness_23 : decode cX4_handleBusiness 23 = .ok (.dup, 1) := by decide +kernel
theorem dX4_handleBusiness_24 : decode cX4_handleBusiness 24 = .ok (.getfield 146, 3) := by decide +kernel
theorem dX4_handleBusiness_27 : decode cX4_handleBusiness 27 = .ok (.iconst 1, 1) := by decide +kernel
theorem dX4_handleBusiness_28 : decode cX4_handleBusiness 28 = .ok (.iadd, 1) := by decide +kernel
theorem dX4_handleBusiness_29 : decode cX4_handleBusiness 29 = .ok (.putfield 146, 3) := by decide +kernel
theorem dX4_handleBusiness_32 : decode cX4_handleBusiness 32 = .ok (.goto 8, 3) := by decide +kernel
theorem dX4_handleBusiness_35 : decode cX4_handleBusiness 35 = .ok (.aload_n 1, 1) := by decide +kernel
theorem dX4_handleBusiness_36 : decode cX4_handleBusiness 36 = .ok (.iload_n 3, 1) := by decide +kernel
theorem dX4_handleBusiness_37 : decode cX4_handleBusiness 37 = .ok (.invokevirtual 209, 3) := by decide +kernel
theorem dX4_handleBusiness_40 : decode cX4_handleBusiness 40 = .ok (.return_, 1) := by decide +kernel
set_option maxRecDepth 20000 in
theorem ggX4_askForResend_X4_sideOf : GoodIn wsX4_askForResend wsX4_sideOf := goodIn_r _ [6, 7, 8, 57, 58, 59] (by decide +kernel) (by decide +kernel)
set_option maxRecDepth 20000 in
theorem gX4_askForResend_X4_sideOf : GoodIn wsX4_askForResend (wsV RX4 27 RX4 yX4_sideOf wsX4_sideOf) := goodIn_app (goodIn_of _ (by decide +kernel)) ggX4_askForResend_X4_sideOf
set_option maxRecDepth 20000 in
theorem ggX4_askForResend_X4_sendNew : GoodIn wsX4_askForResend wsX4_sendNew := goodIn_r _ [12, 2, 3, 4, 5, 6, 7, 8, 13, 14, 15, 16, 17, 18, 19, 20, 21, 22, 23, 24, 25, 26, 27, 28, 29, 30, 31, 1, 32, 33, 34, 35, 36, 37, 38, 39, 40, 41, 42, 43, 44, 45, 46, 47, 48, 49, 50, 51, 52, 53, 54, 55, 56, 57, 58, 59, 60, 61] (by decide +kernel) (by decide +kernel)
set_option maxRecDepth 20000 in
theorem gX4_askForResend_X4_sendNew : GoodIn wsX4_askForResend (wsV RX4 53 RX4 yX4_sendNew wsX4_sendNew) := goodIn_app (goodIn_of _ (by decide +kernel)) ggX4_askForResend_X4_sendNew
theorem dX4_askForResend_0 : decode cX4_askForResend 0 = .ok (.aload_n 0, 1) := by decide +kernel
theorem dX4_askForResend_1 : decode cX4_askForResend 1 = .ok (.iload_n 1, 1) := by decide +kernel
theorem dX4_askForResend_2 : decode cX4_askForResend 2 = .ok (.invokevirtual 27, 3) := by decide +kernel
theorem dX4_askForResend_5 : decode cX4_askForResend 5 = .ok (.astore_n 2, 1) := by decide +kernel
theorem dX4_askForResend_6 : decode cX4_askForResend 6 = .ok (.aload_n 2, 1) := by decide +kernel
theorem dX4_askForResend_7 : decode cX4_askForResend 7 = .ok (.getfield 31, 3) := by decide +kernel
theorem dX4_askForResend_10 : decode cX4_askForResend 10 = .ok (.iconst 2, 1) := by decide +kernel
theorem dX4_askForResend_11 : decode cX4_askForResend 11 = .ok (.if_icmp .ne 38, 3) := by decide +kernel
theorem dX4_askForResend_14 : decode cX4_askForResend 14 = .ok (.aload_n 2, 1) := by decide +kernel
theorem dX4_askForResend_15 : decode cX4_askForResend 15 = .ok (.getfield 106, 3) := by decide +kernel
theorem dX4_askForResend_18 : decode cX4_askForResend 18 = .ok (.ifCond .ne 31, 3) := by decide +kernel
theorem dX4_askForResend_21 : decode cX4_askForResend 21 = .ok (.aload_n 0, 1) := by decide +kernel
theorem dX4_askForResend_22 : decode cX4_askForResend 22 = .ok (.iload_n 1, 1) := by decide +kernel
theorem dX4_askForResend_23 : decode cX4_askForResend 23 = .ok (.iconst 3, 1) := by decide +kernel
theorem dX4_askForResend_24 : decode cX4_askForResend 24 = .ok (.aload_n 2, 1) := by decide +kernel
theorem dX4_askForResend_25 : decode cX4_askForResend 25 = .ok (.getfield 34, 3) := by decide +kernel
theorem dX4_askForResend_28 : decode cX4_askForResend 28 = .ok (.getfield 103, 3) := by decide +kernel
theorem dX4_askForResend_31 : decode cX4_askForResend 31 = .ok (.iconst 0, 1) := by decide +kernel
theorem dX4_askForResend_32 : decode cX4_askForResend 32 = .ok (.invokevirtual 53, 3) := by decide +kernel
theorem dX4_askForResend_35 : decode cX4_askForResend 35 = .ok (.pop, 1) := by decide +kernel
theorem dX4_askForResend_36 : decode cX4_askForResend 36 = .ok (.aload_n 2, 1) := by decide +kernel
theorem dX4_askForResend_37 : decode cX4_askForResend 37 = .ok (.iconst 1, 1) := by decide +kernel
theorem dX4_askForResend_38 : decode cX4_askForResend 38 = .ok (.putfield 106, 3) := by decide +kernel
theorem dX4_askForResend_41 : decode cX4_askForResend 41 = .ok (.aload_n 2, 1) := by decide +kernel
theorem dX4_askForResend_42 : decode cX4_askForResend 42 = .ok (.aload_n 0, 1) := by decide +kernel
theorem dX4_askForResend_43 : decode cX4_askForResend 43 = .ok (.getfield 19, 3) := by decide +kernel
theorem dX4_askForResend_46 : decode cX4_askForResend 46 = .ok (.putfield 212, 3) := by decide +kernel
theorem dX4_askForResend_49 : decode cX4_askForResend 49 = .ok (.return_, 1) := by decide +kernel
set_option maxRecDepth 20000 in
theorem ggX4_answerResend_X4_sideOf : GoodIn wsX4_answerResend wsX4_sideOf := goodIn_r _ [10, 11, 12, 66, 67, 68] (by decide +kernel) (by decide +kernel)
set_option maxRecDepth 20000 in
theorem gX4_answerResend_X4_sideOf : GoodIn wsX4_answerResend (wsV RX4 27 RX4 yX4_sideOf wsX4_sideOf) := goodIn_app (goodIn_of _ (by decide +kernel)) ggX4_answerResend_X4_sideOf
set_option maxRecDepth 20000 in
theorem ggX4_answerResend_X2_hasBusiness : GoodIn wsX4_answerResend wsX2_hasBusiness := goodIn_r _ [17, 18, 19, 20, 21, 16, 22, 23, 24, 25, 26, 27, 60, 61, 62, 63, 64, 65] (by decide +kernel) (by decide +kernel)
set_option maxRecDepth 20000 in
theorem gX4_answerResend_X2_hasBusiness : GoodIn wsX4_answerResend (wsV RX4 72 RX2 yX2_hasBusiness wsX2_hasBusiness) := goodIn_app (goodIn_of _ (by decide +kernel)) ggX4_answerResend_X2_hasBusiness
set_option maxRecDepth 20000 in
theorem ggX4_answerResend_X4_putFill : GoodIn wsX4_answerResend wsX4_putFill := goodIn_r _ [31, 5, 32, 33, 26, 34, 35, 36, 37, 9, 38, 39, 6, 7, 8, 10, 11, 12, 40, 41, 42, 43, 44, 45, 46, 47, 48, 49, 50, 66, 67, 68, 52, 53, 54, 55, 56, 57, 58, 59, 69, 70] (by decide +kernel) (by decide +kernel)
set_option maxRecDepth 20000 in
theorem gX4_answerResend_X4_putFill : GoodIn wsX4_answerResend (wsV RX4 218 RX4 yX4_putFill wsX4_putFill) := goodIn_app (goodIn_of _ (by decide +kernel)) ggX4_answerResend_X4_putFill
set_option maxRecDepth 20000 in
theorem ggX4_answerResend_X2_sentAt : GoodIn wsX4_answerResend wsX2_sentAt := goodIn_r _ [22, 23, 60, 61, 62, 63, 64, 65] (by decide +kernel) (by decide +kernel)
set_option maxRecDepth 20000 in
theorem gX4_answerResend_X2_sentAt : GoodIn wsX4_answerResend (wsV RX4 79 RX2 yX2_sentAt wsX2_sentAt) := goodIn_app (goodIn_of _ (by decide +kernel)) ggX4_answerResend_X2_sentAt
set_option maxRecDepth 20000 in
theorem ggX4_answerResend_X4_putOnWire : GoodIn wsX4_answerResend wsX4_putOnWire := goodIn_r _ [38, 39, 6, 7, 8, 9, 10, 11, 12, 40, 41, 42, 43, 44, 45, 46, 47, 48, 49, 50, 66, 67, 68, 52, 53, 54, 55, 56, 57, 58, 59, 69, 70] (by decide +kernel) (by decide +kernel)
set_option maxRecDepth 20000 in
theorem gX4_answerResend_X4_putOnWire : GoodIn wsX4_answerResend (wsV RX4 178 RX4 yX4_putOnWire wsX4_putOnWire) := goodIn_app (goodIn_of _ (by decide +kernel)) ggX4_answerResend_X4_putOnWire
theorem dX4_answerResend_0 : decode cX4_answerResend 0 = .ok (.aload_n 0, 1) := by decide +kernel
theorem dX4_answerResend_1 : decode cX4_answerResend 1 = .ok (.iload_n 1, 1) := by decide +kernel
theorem dX4_answerResend_2 : decode cX4_answerResend 2 = .ok (.invokevirtual 27, 3) := by decide +kernel
theorem dX4_answerResend_5 : decode cX4_answerResend 5 = .ok (.getfield 34, 3) := by decide +kernel
theorem dX4_answerResend_8 : decode cX4_answerResend 8 = .ok (.astore_n 3, 1) := by decide +kernel
theorem dX4_answerResend_9 : decode cX4_answerResend 9 = .ok (.aload_n 3, 1) := by decide +kernel
theorem dX4_answerResend_10 : decode cX4_answerResend 10 = .ok (.getfield 63, 3) := by decide +kernel
theorem dX4_answerResend_13 : decode cX4_answerResend 13 = .ok (.istore 4, 2) := by decide +kernel
theorem dX4_answerResend_15 : decode cX4_answerResend 15 = .ok (.iconst (-1), 1) := by decide +kernel
theorem dX4_answerResend_16 : decode cX4_answerResend 16 = .ok (.istore 5, 2) := by decide +kernel
theorem dX4_answerResend_18 : decode cX4_answerResend 18 = .ok (.iload_n 2, 1) := by decide +kernel
theorem dX4_answerResend_19 : decode cX4_answerResend 19 = .ok (.iconst 1, 1) := by decide +kernel
theorem dX4_answerResend_20 : decode cX4_answerResend 20 = .ok (.invokestatic 215, 3) := by decide +kernel
theorem dX4_answerResend_23 : decode cX4_answerResend 23 = .ok (.istore 6, 2) := by decide +kernel
theorem dX4_answerResend_25 : decode cX4_answerResend 25 = .ok (.iload 6, 2) := by decide +kernel
theorem dX4_answerResend_27 : decode cX4_answerResend 27 = .ok (.iload 4, 2) := by decide +kernel
theorem dX4_answerResend_29 : decode cX4_answerResend 29 = .ok (.if_icmp .gt 57, 3) := by decide +kernel
theorem dX4_answerResend_32 : decode cX4_answerResend 32 = .ok (.aload_n 3, 1) := by decide +kernel
theorem dX4_answerResend_33 : decode cX4_answerResend 33 = .ok (.iload 6, 2) := by decide +kernel
theorem dX4_answerResend_35 : decode cX4_answerResend 35 = .ok (.invokevirtual 72, 3) := by decide +kernel
theorem dX4_answerResend_38 : decode cX4_answerResend 38 = .ok (.ifCond .eq 32, 3) := by decide +kernel
theorem dX4_answerResend_41 : decode cX4_answerResend 41 = .ok (.aload_n 0, 1) := by decide +kernel
theorem dX4_answerResend_42 : decode cX4_answerResend 42 = .ok (.iload_n 1, 1) := by decide +kernel
theorem dX4_answerResend_43 : decode cX4_answerResend 43 = .ok (.iload 5, 2) := by decide +kernel
theorem dX4_answerResend_45 : decode cX4_answerResend 45 = .ok (.iload 6, 2) := by decide +kernel
theorem dX4_answerResend_47 : decode cX4_answerResend 47 = .ok (.invokevirtual 218, 3) := by decide +kernel
theorem dX4_answerResend_50 : decode cX4_answerResend 50 = .ok (.iconst (-1), 1) := by decide +kernel
theorem dX4_answerResend_51 : decode cX4_answerResend 51 = .ok (.istore 5, 2) := by decide +kernel
theorem dX4_answerResend_53 : decode cX4_answerResend 53 = .ok (.aload_n 0, 1) := by decide +kernel
theorem dX4_answerResend_54 : decode cX4_answerResend 54 = .ok (.iload_n 1, 1) := by decide +kernel
theorem dX4_answerResend_55 : decode cX4_answerResend 55 = .ok (.aload_n 3, 1) := by decide +kernel
theorem dX4_answerResend_56 : decode cX4_answerResend 56 = .ok (.iload 6, 2) := by decide +kernel
theorem dX4_answerResend_58 : decode cX4_answerResend 58 = .ok (.invokevirtual 79, 3) := by decide +kernel
theorem dX4_answerResend_61 : decode cX4_answerResend 61 = .ok (.ldc 197, 2) := by decide +kernel
theorem dX4_answerResend_63 : decode cX4_answerResend 63 = .ok (.ior, 1) := by decide +kernel
theorem dX4_answerResend_64 : decode cX4_answerResend 64 = .ok (.invokevirtual 178, 3) := by decide +kernel
theorem dX4_answerResend_67 : decode cX4_answerResend 67 = .ok (.goto 13, 3) := by decide +kernel
theorem dX4_answerResend_70 : decode cX4_answerResend 70 = .ok (.iload 5, 2) := by decide +kernel
theorem dX4_answerResend_72 : decode cX4_answerResend 72 = .ok (.iconst (-1), 1) := by decide +kernel
theorem dX4_answerResend_73 : decode cX4_answerResend 73 = .ok (.if_icmp .ne 7, 3) := by decide +kernel
theorem dX4_answerResend_76 : decode cX4_answerResend 76 = .ok (.iload 6, 2) := by decide +kernel
theorem dX4_answerResend_78 : decode cX4_answerResend 78 = .ok (.istore 5, 2) := by decide +kernel
theorem dX4_answerResend_80 : decode cX4_answerResend 80 = .ok (.iinc 6 1, 3) := by decide +kernel
theorem dX4_answerResend_83 : decode cX4_answerResend 83 = .ok (.goto (-58), 3) := by decide +kernel
theorem dX4_answerResend_86 : decode cX4_answerResend 86 = .ok (.aload_n 0, 1) := by decide +kernel
theorem dX4_answerResend_87 : decode cX4_answerResend 87 = .ok (.iload_n 1, 1) := by decide +kernel
theorem dX4_answerResend_88 : decode cX4_answerResend 88 = .ok (.iload 5, 2) := by decide +kernel
theorem dX4_answerResend_90 : decode cX4_answerResend 90 = .ok (.iload 4, 2) := by decide +kernel
theorem dX4_answerResend_92 : decode cX4_answerResend 92 = .ok (.iconst 1, 1) := by decide +kernel
theorem dX4_answerResend_93 : decode cX4_answerResend 93 = .ok (.iadd, 1) := by decide +kernel
theorem dX4_answerResend_94 : decode cX4_answerResend 94 = .ok (.invokevirtual 218, 3) := by decide +kernel
theorem dX4_answerResend_97 : decode cX4_answerResend 97 = .ok (.return_, 1) := by decide +kernel
set_option maxRecDepth 20000 in
theorem ggX4_putFill_X0_of : GoodIn wsX4_putFill wsX0_of := goodIn_r _ [5] (by decide +kernel) (by decide +kernel)
set_option maxRecDepth 20000 in
theorem gX4_putFill_X0_of : GoodIn wsX4_putFill (va_wsS RX4 172 yX0_of wsX0_of) := goodIn_app (goodIn_of _ (by decide +kernel)) ggX4_putFill_X0_of
set_option maxRecDepth 20000 in
theorem ggX4_putFill_X4_putOnWire : GoodIn wsX4_putFill wsX4_putOnWire := goodIn_r _ [10, 11, 12, 13, 14, 9, 15, 16, 17, 18, 19, 20, 21, 22, 23, 24, 25, 26, 27, 28, 29, 30, 31, 32, 33, 34, 35, 36, 37, 38, 39, 40, 41] (by decide +kernel) (by decide +kernel)
set_option maxRecDepth 20000 in
theorem gX4_putFill_X4_putOnWire : GoodIn wsX4_putFill (wsV RX4 178 RX4 yX4_putOnWire wsX4_putOnWire) := goodIn_app (goodIn_of _ (by decide +kernel)) ggX4_putFill_X4_putOnWire
theorem dX4_putFill_0 : decode cX4_putFill 0 = .ok (.iload_n 2, 1) := by decide +kernel
theorem dX4_putFill_1 : decode cX4_putFill 1 = .ok (.iconst (-1), 1) := by decide +kernel
theorem dX4_putFill_2 : decode cX4_putFill 2 = .ok (.if_icmp .eq 16, 3) := by decide +kernel
theorem dX4_putFill_5 : decode cX4_putFill 5 = .ok (.aload_n 0, 1) := by decide +kernel
theorem dX4_putFill_6 : decode cX4_putFill 6 = .ok (.iload_n 1, 1) := by decide +kernel
theorem dX4_putFill_7 : decode cX4_putFill 7 = .ok (.iload_n 2, 1) := by decide +kernel
theorem dX4_putFill_8 : decode cX4_putFill 8 = .ok (.iconst 4, 1) := by decide +kernel
theorem dX4_putFill_9 : decode cX4_putFill 9 = .ok (.iload_n 3, 1) := by decide +kernel
theorem dX4_putFill_10 : decode cX4_putFill 10 = .ok (.ldc 197, 2) := by decide +kernel
theorem dX4_putFill_12 : decode cX4_putFill 12 = .ok (.invokestatic 172, 3) := by decide +kernel
theorem dX4_putFill_15 : decode cX4_putFill 15 = .ok (.invokevirtual 178, 3) := by decide +kernel
theorem dX4_putFill_18 : decode cX4_putFill 18 = .ok (.return_, 1) := by decide +kernel
set_option maxRecDepth 20000 in
theorem ggX4_passTick_X4_sideOf : GoodIn wsX4_passTick wsX4_sideOf := goodIn_r _ [6, 7, 8, 58, 59, 60] (by decide +kernel) (by decide +kernel)
set_option maxRecDepth 20000 in
theorem gX4_passTick_X4_sideOf : GoodIn wsX4_passTick (wsV RX4 27 RX4 yX4_sideOf wsX4_sideOf) := goodIn_app (goodIn_of _ (by decide +kernel)) ggX4_passTick_X4_sideOf
set_option maxRecDepth 20000 in
theorem ggX4_passTick_X1_turnOff : GoodIn wsX4_passTick wsX1_turnOff := goodIn_r _ [13, 14, 15, 50, 51, 52, 53, 54, 55, 56, 57] (by decide +kernel) (by decide +kernel)
set_option maxRecDepth 20000 in
theorem gX4_passTick_X1_turnOff : GoodIn wsX4_passTick (wsV RX4 60 RX1 yX1_turnOff wsX1_turnOff) := goodIn_app (goodIn_of _ (by decide +kernel)) ggX4_passTick_X1_turnOff
set_option maxRecDepth 20000 in
theorem ggX4_passTick_X4_sendNew : GoodIn wsX4_passTick wsX4_sendNew := goodIn_r _ [19, 2, 3, 4, 5, 6, 7, 8, 20, 21, 22, 23, 24, 25, 26, 27, 28, 29, 30, 31, 32, 33, 34, 35, 36, 37, 38, 1, 39, 40, 41, 42, 43, 44, 45, 46, 47, 48, 49, 50, 51, 52, 53, 54, 55, 56, 57, 61, 62, 63, 64, 65, 66, 58, 59, 60, 67, 68] (by decide +kernel) (by decide +kernel)
set_option maxRecDepth 20000 in
theorem gX4_passTick_X4_sendNew : GoodIn wsX4_passTick (wsV RX4 53 RX4 yX4_sendNew wsX4_sendNew) := goodIn_app (goodIn_of _ (by decide +kernel)) ggX4_passTick_X4_sendNew
theorem dX4_passTick_0 : decode cX4_passTick 0 = .ok (.aload_n 0, 1) := by decide +kernel
theorem dX4_passTick_1 : decode cX4_passTick 1 = .ok (.iload_n 1, 1) := by decide +kernel
theorem dX4_passTick_2 : decode cX4_passTick 2 = .ok (.invokevirtual 27, 3) := by decide +kernel
theorem dX4_passTick_5 : decode cX4_passTick 5 = .ok (.astore_n 2, 1) := by decide +kernel
theorem dX4_passTick_6 : decode cX4_passTick 6 = .ok (.aload_n 2, 1) := by decide +kernel
theorem dX4_passTick_7 : decode cX4_passTick 7 = .ok (.getfield 31, 3) := by decide +kernel
theorem dX4_passTick_10 : decode cX4_passTick 10 = .ok (.iconst 2, 1) := by decide +kernel
theorem dX4_passTick_11 : decode cX4_passTick 11 = .ok (.if_icmp .eq 4, 3) := by decide +kernel
theorem dX4_passTick_14 : decode cX4_passTick 14 = .ok (.return_, 1) := by decide +kernel
theorem dX4_passTick_15 : decode cX4_passTick 15 = .ok (.aload_n 0, 1) := by decide +kernel
theorem dX4_passTick_16 : decode cX4_passTick 16 = .ok (.getfield 19, 3) := by decide +kernel
theorem dX4_passTick_19 : decode cX4_passTick 19 = .ok (.aload_n 2, 1) := by decide +kernel
theorem dX4_passTick_20 : decode cX4_passTick 20 = .ok (.getfield 212, 3) := by decide +kernel
theorem dX4_passTick_23 : decode cX4_passTick 23 = .ok (.isub, 1) := by decide +kernel
theorem dX4_passTick_24 : decode cX4_passTick 24 = .ok (.iconst 4, 1) := by decide +kernel
theorem dX4_passTick_25 : decode cX4_passTick 25 = .ok (.if_icmp .lt 8, 3) := by decide +kernel
theorem dX4_passTick_28 : decode cX4_passTick 28 = .ok (.aload_n 2, 1) := by decide +kernel
theorem dX4_passTick_29 : decode cX4_passTick 29 = .ok (.iconst 0, 1) := by decide +kernel
theorem dX4_passTick_30 : decode cX4_passTick 30 = .ok (.putfield 106, 3) := by decide +kernel
theorem dX4_passTick_33 : decode cX4_passTick 33 = .ok (.aload_n 0, 1) := by decide +kernel
theorem dX4_passTick_34 : decode cX4_passTick 34 = .ok (.getfield 19, 3) := by decide +kernel
theorem dX4_passTick_37 : decode cX4_passTick 37 = .ok (.aload_n 2, 1) := by decide +kernel
theorem dX4_passTick_38 : decode cX4_passTick 38 = .ok (.getfield 222, 3) := by decide +kernel
theorem dX4_passTick_41 : decode cX4_passTick 41 = .ok (.isub, 1) := by decide +kernel
theorem dX4_passTick_42 : decode cX4_passTick 42 = .ok (.istore_n 3, 1) := by decide +kernel
theorem dX4_passTick_43 : decode cX4_passTick 43 = .ok (.iload_n 3, 1) := by decide +kernel
theorem dX4_passTick_44 : decode cX4_passTick 44 = .ok (.bipush 8, 2) := by decide +kernel
theorem dX4_passTick_46 : decode cX4_passTick 46 = .ok (.if_icmp .lt 10, 3) := by decide +kernel
theorem dX4_passTick_49 : decode cX4_passTick 49 = .ok (.aload_n 2, 1) := by decide +kernel
theorem dX4_passTick_50 : decode cX4_passTick 50 = .ok (.invokevirtual 60, 3) := by decide +kernel
theorem dX4_passTick_53 : decode cX4_passTick 53 = .ok (.goto 54, 3) := by decide +kernel
theorem dX4_passTick_56 : decode cX4_passTick 56 = .ok (.iload_n 3, 1) := by decide +kernel
theorem dX4_passTick_57 : decode cX4_passTick 57 = .ok (.iconst 5, 1) := by decide +kernel
theorem dX4_passTick_58 : decode cX4_passTick 58 = .ok (.if_icmp .lt 27, 3) := by decide +kernel
theorem dX4_passTick_61 : decode cX4_passTick 61 = .ok (.aload_n 2, 1) := by decide +kernel
theorem dX4_passTick_62 : decode cX4_passTick 62 = .ok (.getfield 225, 3) := by decide +kernel
theorem dX4_passTick_65 : decode cX4_passTick 65 = .ok (.ifCond .ne 20, 3) := by decide +kernel
theorem dX4_passTick_68 : decode cX4_passTick 68 = .ok (.aload_n 2, 1) := by decide +kernel
theorem dX4_passTick_69 : decode cX4_passTick 69 = .ok (.iconst 1, 1) := by decide +kernel
theorem dX4_passTick_70 : decode cX4_passTick 70 = .ok (.putfield 225, 3) := by decide +kernel
theorem dX4_passTick_73 : decode cX4_passTick 73 = .ok (.aload_n 0, 1) := by decide +kernel
theorem dX4_passTick_74 : decode cX4_passTick 74 = .ok (.iload_n 1, 1) := by decide +kernel
theorem dX4_passTick_75 : decode cX4_passTick 75 = .ok (.iconst 2, 1) := by decide +kernel
theorem dX4_passTick_76 : decode cX4_passTick 76 = .ok (.iconst 0, 1) := by decide +kernel
theorem dX4_passTick_77 : decode cX4_passTick 77 = .ok (.iconst 0, 1) := by decide +kernel
theorem dX4_passTick_78 : decode cX4_passTick 78 = .ok (.invokevirtual 53, 3) := by decide +kernel
theorem dX4_passTick_81 : decode cX4_passTick 81 = .ok (.pop, 1) := by decide +kernel
theorem dX4_passTick_82 : decode cX4_passTick 82 = .ok (.goto 25, 3) := by decide +kernel
theorem dX4_passTick_85 : decode cX4_passTick 85 = .ok (.aload_n 0, 1) := by decide +kernel
theorem dX4_passTick_86 : decode cX4_passTick 86 = .ok (.getfield 19, 3) := by decide +kernel
theorem dX4_passTick_89 : decode cX4_passTick 89 = .ok (.aload_n 2, 1) := by decide +kernel
theorem dX4_passTick_90 : decode cX4_passTick 90 = .ok (.getfield 166, 3) := by decide +kernel
theorem dX4_passTick_93 : decode cX4_passTick 93 = .ok (.isub, 1) := by decide +kernel
theorem dX4_passTick_94 : decode cX4_passTick 94 = .ok (.iconst 3, 1) := by decide +kernel
theorem dX4_passTick_95 : decode cX4_passTick 95 = .ok (.if_icmp .lt 12, 3) := by decide +kernel
theorem dX4_passTick_98 : decode cX4_passTick 98 = .ok (.aload_n 0, 1) := by decide +kernel
theorem dX4_passTick_99 : decode cX4_passTick 99 = .ok (.iload_n 1, 1) := by decide +kernel
theorem dX4_passTick_100 : decode cX4_passTick 100 = .ok (.iconst 1, 1) := by decide +kernel
theorem dX4_passTick_101 : decode cX4_passTick 101 = .ok (.iconst 0, 1) := by decide +kernel
theorem dX4_passTick_102 : decode cX4_passTick 102 = .ok (.iconst 0, 1) := by decide +kernel
theorem dX4_passTick_103 : decode cX4_passTick 103 = .ok (.invokevirtual 53, 3) := by decide +kernel
theorem dX4_passTick_106 : decode cX4_passTick 106 = .ok (.pop, 1) := by decide +kernel
theorem dX4_passTick_107 : decode cX4_passTick 107 = .ok (.return_, 1) := by decide +kernel
set_option maxRecDepth 20000 in
theorem ggJ5_init_d00df_J2_newBytesFor_77867 : GoodIn wsJ5_init_d00df wsJ2_newBytesFor_77867 := goodIn_r _ [11, 5, 12, 13, 10, 14, 15] (by decide +kernel) (by decide +kernel)
set_option maxRecDepth 20000 in
theorem gJ5_init_d00df_J2_newBytesFor_77867 : GoodIn wsJ5_init_d00df (va_wsS RJ5 26 yJ2_newBytesFor_77867 wsJ2_newBytesFor_77867) := goodIn_app (goodIn_of _ (by decide +kernel)) ggJ5_init_d00df_J2_newBytesFor_77867
theorem dJ5_init_d00df_0 : decode cJ5_init_d00df 0 = .ok (.aload_n 0, 1) := by decide +kernel
theorem dJ5_init_d00df_1 : decode cJ5_init_d00df 1 = .ok (.invokespecial 3, 3) := by decide +kernel
theorem dJ5_init_d00df_4 : decode cJ5_init_d00df 4 = .ok (.getstatic 18, 3) := by decide +kernel
theorem dJ5_init_d00df_7 : decode cJ5_init_d00df 7 = .ok (.ifCond .eq 18, 3) := by decide +kernel
theorem dJ5_init_d00df_10 : decode cJ5_init_d00df 10 = .ok (.aload_n 0, 1) := by decide +kernel
theorem dJ5_init_d00df_11 : decode cJ5_init_d00df 11 = .ok (.iload_n 1, 1) := by decide +kernel
theorem dJ5_init_d00df_12 : decode cJ5_init_d00df 12 = .ok (.newarray .byte, 2) := by decide +kernel
theorem dJ5_init_d00df_14 : decode cJ5_init_d00df 14 = .ok (.putfield 15, 3) := by decide +kernel
theorem dJ5_init_d00df_17 : decode cJ5_init_d00df 17 = .ok (.aload_n 0, 1) := by decide +kernel
theorem dJ5_init_d00df_18 : decode cJ5_init_d00df 18 = .ok (.iconst 0, 1) := by decide +kernel
theorem dJ5_init_d00df_19 : decode cJ5_init_d00df 19 = .ok (.putfield 22, 3) := by decide +kernel
theorem dJ5_init_d00df_22 : decode cJ5_init_d00df 22 = .ok (.goto 16, 3) := by decide +kernel
theorem dJ5_init_d00df_25 : decode cJ5_init_d00df 25 = .ok (.aload_n 0, 1) := by decide +kernel
theorem dJ5_init_d00df_26 : decode cJ5_init_d00df 26 = .ok (.iload_n 1, 1) := by decide +kernel
theorem dJ5_init_d00df_27 : decode cJ5_init_d00df 27 = .ok (.invokestatic 26, 3) := by decide +kernel
theorem dJ5_init_d00df_30 : decode cJ5_init_d00df 30 = .ok (.putfield 15, 3) := by decide +kernel
theorem dJ5_init_d00df_33 : decode cJ5_init_d00df 33 = .ok (.aload_n 0, 1) := by decide +kernel
theorem dJ5_init_d00df_34 : decode cJ5_init_d00df 34 = .ok (.iconst 1, 1) := by decide +kernel
theorem dJ5_init_d00df_35 : decode cJ5_init_d00df 35 = .ok (.putfield 22, 3) := by decide +kernel
theorem dJ5_init_d00df_38 : decode cJ5_init_d00df 38 = .ok (.return_, 1) := by decide +kernel
theorem dJ5_length_8abf5_0 : decode cJ5_length_8abf5 0 = .ok (.aload_n 0, 1) := by decide +kernel
theorem dJ5_length_8abf5_1 : decode cJ5_length_8abf5 1 = .ok (.getfield 79, 3) := by decide +kernel
theorem dJ5_length_8abf5_4 : decode cJ5_length_8abf5 4 = .ok (.ireturn, 1) := by decide +kernel
set_option maxRecDepth 20000 in
theorem ggJ5_ensureCapacityInternal_d00df_J5_newCapacity_0f7a4 : GoodIn wsJ5_ensureCapacityInternal_d00df wsJ5_newCapacity_0f7a4 := goodIn_r _ [8, 1, 2, 9, 10, 11, 12, 13, 14, 15, 16, 17, 18, 19, 20, 21, 40, 41, 42, 43] (by decide +kernel) (by decide +kernel)
set_option maxRecDepth 20000 in
theorem gJ5_ensureCapacityInternal_d00df_J5_newCapacity_0f7a4_u104J4 : GoodIn wsJ5_ensureCapacityInternal_d00df (va_wsU RJ5 104 RJ4 "java/lang/AbstractStringBuilder" ⟨"java/lang/AbstractStringBuilder", "newCapacity", "(I)I"⟩ yJ5_newCapacity_0f7a4 wsJ5_newCapacity_0f7a4) := goodIn_app (goodIn_of _ (by decide +kernel)) ggJ5_ensureCapacityInternal_d00df_J5_newCapacity_0f7a4
set_option maxRecDepth 20000 in
theorem ggJ5_ensureCapacityInternal_d00df_J7_copyOf_9075b : GoodIn wsJ5_ensureCapacityInternal_d00df wsJ7_copyOf_9075b := goodIn_r _ [25, 26, 27, 28, 29, 30, 31, 32, 33, 34, 16, 35, 36, 37, 38, 39] (by decide +kernel) (by decide +kernel)
set_option maxRecDepth 20000 in
theorem gJ5_ensureCapacityInternal_d00df_J7_copyOf_9075b : GoodIn wsJ5_ensureCapacityInternal_d00df (va_wsS RJ5 108 yJ7_copyOf_9075b wsJ7_copyOf_9075b) := goodIn_app (goodIn_of _ (by decide +kernel)) ggJ5_ensureCapacityInternal_d00df_J7_copyOf_9075b
theorem dJ5_ensureCapacityInternal_d00df_0 : decode cJ5_ensureCapacityInternal_d00df 0 = .ok (.aload_n 0, 1) := by decide +kernel
theorem dJ5_ensureCapacityInternal_d00df_1 : decode cJ5_ensureCapacityInternal_d00df 1 = .ok (.getfield 15, 3) := by decide +kernel
theorem dJ5_ensureCapacityInternal_d00df_4 : decode cJ5_ensureCapacityInternal_d00df 4 = .ok (.arraylength, 1) := by decide +kernel
theorem dJ5_ensureCapacityInternal_d00df_5 : decode cJ5_ensureCapacityInternal_d00df 5 = .ok (.aload_n 0, 1) := by decide +kernel
theorem dJ5_ensureCapacityInternal_d00df_6 : decode cJ5_ensureCapacityInternal_d00df 6 = .ok (.getfield 22, 3) := by decide +kernel
theorem dJ5_ensureCapacityInternal_d00df_9 : decode cJ5_ensureCapacityInternal_d00df 9 = .ok (.ishr, 1) := by decide +kernel
theorem dJ5_ensureCapacityInternal_d00df_10 : decode cJ5_ensureCapacityInternal_d00df 10 = .ok (.istore_n 2, 1) := by decide +kernel
theorem dJ5_ensureCapacityInternal_d00df_11 : decode cJ5_ensureCapacityInternal_d00df 11 = .ok (.iload_n 1, 1) := by decide +kernel
theorem dJ5_ensureCapacityInternal_d00df_12 : decode cJ5_ensureCapacityInternal_d00df 12 = .ok (.iload_n 2, 1) := by decide +kernel
theorem dJ5_ensureCapacityInternal_d00df_13 : decode cJ5_ensureCapacityInternal_d00df 13 = .ok (.isub, 1) := by decide +kernel
theorem dJ5_ensureCapacityInternal_d00df_14 : decode cJ5_ensureCapacityInternal_d00df 14 = .ok (.ifCond .le 24, 3) := by decide +kernel
theorem dJ5_ensureCapacityInternal_d00df_17 : decode cJ5_ensureCapacityInternal_d00df 17 = .ok (.aload_n 0, 1) := by decide +kernel
theorem dJ5_ensureCapacityInternal_d00df_18 : decode cJ5_ensureCapacityInternal_d00df 18 = .ok (.aload_n 0, 1) := by decide +kernel
theorem dJ5_ensureCapacityInternal_d00df_19 : decode cJ5_ensureCapacityInternal_d00df 19 = .ok (.getfield 15, 3) := by decide +kernel
theorem dJ5_ensureCapacityInternal_d00df_22 : decode cJ5_ensureCapacityInternal_d00df 22 = .ok (.aload_n 0, 1) := by decide +kernel
theorem dJ5_ensureCapacityInternal_d00df_23 : decode cJ5_ensureCapacityInternal_d00df 23 = .ok (.iload_n 1, 1) := by decide +kernel
theorem dJ5_ensureCapacityInternal_d00df_24 : decode cJ5_ensureCapacityInternal_d00df 24 = .ok (.invokevirtual 104, 3) := by decide +kernel
theorem dJ5_ensureCapacityInternal_d00df_27 : decode cJ5_ensureCapacityInternal_d00df 27 = .ok (.aload_n 0, 1) := by decide +kernel
theorem dJ5_ensureCapacityInternal_d00df_28 : decode cJ5_ensureCapacityInternal_d00df 28 = .ok (.getfield 22, 3) := by decide +kernel
theorem dJ5_ensureCapacityInternal_d00df_31 : decode cJ5_ensureCapacityInternal_d00df 31 = .ok (.ishl, 1) := by decide +kernel
theorem dJ5_ensureCapacityInternal_d00df_32 : decode cJ5_ensureCapacityInternal_d00df 32 = .ok (.invokestatic 108, 3) := by decide +kernel
theorem dJ5_ensureCapacityInternal_d00df_35 : decode cJ5_ensureCapacityInternal_d00df 35 = .ok (.putfield 15, 3) := by decide +kernel
theorem dJ5_ensureCapacityInternal_d00df_38 : decode cJ5_ensureCapacityInternal_d00df 38 = .ok (.return_, 1) := by decide +kernel
set_option maxRecDepth 20000 in
theorem ggJ5_newCapacity_0f7a4_J8_newLength_cabcc : GoodIn wsJ5_newCapacity_0f7a4 wsJ8_newLength_cabcc := goodIn_r _ [7, 8, 9, 10, 11, 12, 13, 14, 6, 15] (by decide +kernel) (by decide +kernel)
set_option maxRecDepth 20000 in
theorem gJ5_newCapacity_0f7a4_J8_newLength_cabcc : GoodIn wsJ5_newCapacity_0f7a4 (va_wsS RJ5 114 yJ8_newLength_cabcc wsJ8_newLength_cabcc) := goodIn_app (goodIn_of _ (by decide +kernel)) ggJ5_newCapacity_0f7a4_J8_newLength_cabcc
theorem dJ5_newCapacity_0f7a4_0 : decode cJ5_newCapacity_0f7a4 0 = .ok (.aload_n 0, 1) := by decide +kernel
theorem dJ5_newCapacity_0f7a4_1 : decode cJ5_newCapacity_0f7a4 1 = .ok (.getfield 15, 3) := by decide +kernel
theorem dJ5_newCapacity_0f7a4_4 : decode cJ5_newCapacity_0f7a4 4 = .ok (.arraylength, 1) := by decide +kernel
theorem dJ5_newCapacity_0f7a4_5 : decode cJ5_newCapacity_0f7a4 5 = .ok (.istore_n 2, 1) := by decide +kernel
theorem dJ5_newCapacity_0f7a4_6 : decode cJ5_newCapacity_0f7a4 6 = .ok (.iload_n 1, 1) := by decide +kernel
theorem dJ5_newCapacity_0f7a4_7 : decode cJ5_newCapacity_0f7a4 7 = .ok (.aload_n 0, 1) := by decide +kernel
theorem dJ5_newCapacity_0f7a4_8 : decode cJ5_newCapacity_0f7a4 8 = .ok (.getfield 22, 3) := by decide +kernel
theorem dJ5_newCapacity_0f7a4_11 : decode cJ5_newCapacity_0f7a4 11 = .ok (.ishl, 1) := by decide +kernel
theorem dJ5_newCapacity_0f7a4_12 : decode cJ5_newCapacity_0f7a4 12 = .ok (.istore_n 3, 1) := by decide +kernel
theorem dJ5_newCapacity_0f7a4_13 : decode cJ5_newCapacity_0f7a4 13 = .ok (.iload_n 3, 1) := by decide +kernel
theorem dJ5_newCapacity_0f7a4_14 : decode cJ5_newCapacity_0f7a4 14 = .ok (.iload_n 2, 1) := by decide +kernel
theorem dJ5_newCapacity_0f7a4_15 : decode cJ5_newCapacity_0f7a4 15 = .ok (.isub, 1) := by decide +kernel
theorem dJ5_newCapacity_0f7a4_16 : decode cJ5_newCapacity_0f7a4 16 = .ok (.istore 4, 2) := by decide +kernel
theorem dJ5_newCapacity_0f7a4_18 : decode cJ5_newCapacity_0f7a4 18 = .ok (.iload_n 2, 1) := by decide +kernel
theorem dJ5_newCapacity_0f7a4_19 : decode cJ5_newCapacity_0f7a4 19 = .ok (.iload 4, 2) := by decide +kernel
theorem dJ5_newCapacity_0f7a4_21 : decode cJ5_newCapacity_0f7a4 21 = .ok (.iload_n 2, 1) := by decide +kernel
theorem dJ5_newCapacity_0f7a4_22 : decode cJ5_newCapacity_0f7a4 22 = .ok (.iconst 2, 1) := by decide +kernel
theorem dJ5_newCapacity_0f7a4_23 : decode cJ5_newCapacity_0f7a4 23 = .ok (.aload_n 0, 1) := by decide +kernel
theorem dJ5_newCapacity_0f7a4_24 : decode cJ5_newCapacity_0f7a4 24 = .ok (.getfield 22, 3) := by decide +kernel
theorem dJ5_newCapacity_0f7a4_27 : decode cJ5_newCapacity_0f7a4 27 = .ok (.ishl, 1) := by decide +kernel
theorem dJ5_newCapacity_0f7a4_28 : decode cJ5_newCapacity_0f7a4 28 = .ok (.iadd, 1) := by decide +kernel
theorem dJ5_newCapacity_0f7a4_29 : decode cJ5_newCapacity_0f7a4 29 = .ok (.invokestatic 114, 3) := by decide +kernel
theorem dJ5_newCapacity_0f7a4_32 : decode cJ5_newCapacity_0f7a4 32 = .ok (.istore 5, 2) := by decide +kernel
theorem dJ5_newCapacity_0f7a4_34 : decode cJ5_newCapacity_0f7a4 34 = .ok (.iload 5, 2) := by decide +kernel
theorem dJ5_newCapacity_0f7a4_36 : decode cJ5_newCapacity_0f7a4 36 = .ok (.ldc 39, 2) := by decide +kernel
theorem dJ5_newCapacity_0f7a4_38 : decode cJ5_newCapacity_0f7a4 38 = .ok (.if_icmp .ne 13, 3) := by decide +kernel
theorem dJ5_newCapacity_0f7a4_41 : decode cJ5_newCapacity_0f7a4 41 = .ok (.new 120, 3) := by decide +kernel
theorem dJ5_newCapacity_0f7a4_44 : decode cJ5_newCapacity_0f7a4 44 = .ok (.dup, 1) := by decide +kernel
theorem dJ5_newCapacity_0f7a4_45 : decode cJ5_newCapacity_0f7a4 45 = .ok (.ldc 122, 2) := by decide +kernel
theorem dJ5_newCapacity_0f7a4_47 : decode cJ5_newCapacity_0f7a4 47 = .ok (.invokespecial 124, 3) := by decide +kernel
theorem dJ5_newCapacity_0f7a4_50 : decode cJ5_newCapacity_0f7a4 50 = .ok (.athrow, 1) := by decide +kernel
theorem dJ5_newCapacity_0f7a4_51 : decode cJ5_newCapacity_0f7a4 51 = .ok (.iload 5, 2) := by decide +kernel
theorem dJ5_newCapacity_0f7a4_53 : decode cJ5_newCapacity_0f7a4 53 = .ok (.aload_n 0, 1) := by decide +kernel
theorem dJ5_newCapacity_0f7a4_54 : decode cJ5_newCapacity_0f7a4 54 = .ok (.getfield 22, 3) := by decide +kernel
theorem dJ5_newCapacity_0f7a4_57 : decode cJ5_newCapacity_0f7a4 57 = .ok (.ishr, 1) := by decide +kernel
theorem dJ5_newCapacity_0f7a4_58 : decode cJ5_newCapacity_0f7a4 58 = .ok (.ireturn, 1) := by decide +kernel
set_option maxRecDepth 20000 in
theorem ggJ5_inflate_da8c8_J5_isLatin1_aae02 : GoodIn wsJ5_inflate_da8c8 wsJ5_isLatin1_aae02 := goodIn_r _ [9, 10, 3, 48, 49, 50, 51] (by decide +kernel) (by decide +kernel)
set_option maxRecDepth 20000 in
theorem gJ5_inflate_da8c8_J5_isLatin1_aae02_u83J4 : GoodIn wsJ5_inflate_da8c8 (va_wsU RJ5 83 RJ4 "java/lang/AbstractStringBuilder" ⟨"java/lang/AbstractStringBuilder", "isLatin1", "()Z"⟩ yJ5_isLatin1_aae02 wsJ5_isLatin1_aae02) := goodIn_app (goodIn_of _ (by decide +kernel)) ggJ5_inflate_da8c8_J5_isLatin1_aae02
set_option maxRecDepth 20000 in
theorem ggJ5_inflate_da8c8_J2_newBytesFor_77867 : GoodIn wsJ5_inflate_da8c8 wsJ2_newBytesFor_77867 := goodIn_r _ [14, 15, 16, 17, 13, 18, 19] (by decide +kernel) (by decide +kernel)
set_option maxRecDepth 20000 in
theorem gJ5_inflate_da8c8_J2_newBytesFor_77867 : GoodIn wsJ5_inflate_da8c8 (va_wsS RJ5 26 yJ2_newBytesFor_77867 wsJ2_newBytesFor_77867) := goodIn_app (goodIn_of _ (by decide +kernel)) ggJ5_inflate_da8c8_J2_newBytesFor_77867
set_option maxRecDepth 20000 in
theorem ggJ5_inflate_da8c8_J1_inflate_0e8fd : GoodIn wsJ5_inflate_da8c8 wsJ1_inflate_0e8fd := goodIn_r _ [23, 24, 25, 13, 26, 27, 28, 29, 30, 31, 32, 33, 34, 35, 36, 37, 38, 39, 40, 41, 42, 43, 44, 45, 46, 47] (by decide +kernel) (by decide +kernel)
set_option maxRecDepth 20000 in
theorem gJ5_inflate_da8c8_J1_inflate_0e8fd : GoodIn wsJ5_inflate_da8c8 (va_wsS RJ5 125 yJ1_inflate_0e8fd wsJ1_inflate_0e8fd) := goodIn_app (goodIn_of _ (by decide +kernel)) ggJ5_inflate_da8c8_J1_inflate_0e8fd
theorem dJ5_inflate_da8c8_0 : decode cJ5_inflate_da8c8 0 = .ok (.aload_n 0, 1) := by decide +kernel
theorem dJ5_inflate_da8c8_1 : decode cJ5_inflate_da8c8 1 = .ok (.invokevirtual 83, 3) := by decide +kernel
theorem dJ5_inflate_da8c8_4 : decode cJ5_inflate_da8c8 4 = .ok (.ifCond .ne 4, 3) := by decide +kernel
theorem dJ5_inflate_da8c8_7 : decode cJ5_inflate_da8c8 7 = .ok (.return_, 1) := by decide +kernel
theorem dJ5_inflate_da8c8_8 : decode cJ5_inflate_da8c8 8 = .ok (.aload_n 0, 1) := by decide +kernel
theorem dJ5_inflate_da8c8_9 : decode cJ5_inflate_da8c8 9 = .ok (.getfield 15, 3) := by decide +kernel
theorem dJ5_inflate_da8c8_12 : decode cJ5_inflate_da8c8 12 = .ok (.arraylength, 1) := by decide +kernel
theorem dJ5_inflate_da8c8_13 : decode cJ5_inflate_da8c8 13 = .ok (.invokestatic 26, 3) := by decide +kernel
theorem dJ5_inflate_da8c8_16 : decode cJ5_inflate_da8c8 16 = .ok (.astore_n 1, 1) := by decide +kernel
theorem dJ5_inflate_da8c8_17 : decode cJ5_inflate_da8c8 17 = .ok (.aload_n 0, 1) := by decide +kernel
theorem dJ5_inflate_da8c8_18 : decode cJ5_inflate_da8c8 18 = .ok (.getfield 15, 3) := by decide +kernel
theorem dJ5_inflate_da8c8_21 : decode cJ5_inflate_da8c8 21 = .ok (.iconst 0, 1) := by decide +kernel
theorem dJ5_inflate_da8c8_22 : decode cJ5_inflate_da8c8 22 = .ok (.aload_n 1, 1) := by decide +kernel
theorem dJ5_inflate_da8c8_23 : decode cJ5_inflate_da8c8 23 = .ok (.iconst 0, 1) := by decide +kernel
theorem dJ5_inflate_da8c8_24 : decode cJ5_inflate_da8c8 24 = .ok (.aload_n 0, 1) := by decide +kernel
theorem dJ5_inflate_da8c8_25 : decode cJ5_inflate_da8c8 25 = .ok (.getfield 79, 3) := by decide +kernel
theorem dJ5_inflate_da8c8_28 : decode cJ5_inflate_da8c8 28 = .ok (.invokestatic 125, 3) := by decide +kernel
theorem dJ5_inflate_da8c8_31 : decode cJ5_inflate_da8c8 31 = .ok (.aload_n 0, 1) := by decide +kernel
theorem dJ5_inflate_da8c8_32 : decode cJ5_inflate_da8c8 32 = .ok (.aload_n 1, 1) := by decide +kernel
theorem dJ5_inflate_da8c8_33 : decode cJ5_inflate_da8c8 33 = .ok (.putfield 15, 3) := by decide +kernel
theorem dJ5_inflate_da8c8_36 : decode cJ5_inflate_da8c8 36 = .ok (.aload_n 0, 1) := by decide +kernel
theorem dJ5_inflate_da8c8_37 : decode cJ5_inflate_da8c8 37 = .ok (.iconst 1, 1) := by decide +kernel
theorem dJ5_inflate_da8c8_38 : decode cJ5_inflate_da8c8 38 = .ok (.putfield 22, 3) := by decide +kernel
theorem dJ5_inflate_da8c8_41 : decode cJ5_inflate_da8c8 41 = .ok (.return_, 1) := by decide +kernel
set_option maxRecDepth 20000 in
theorem ggJ5_charAt_5068e_J0_checkIndex_df160 : GoodIn wsJ5_charAt_5068e wsJ0_checkIndex_df160 := goodIn_r _ [11, 12, 13, 14, 15, 16] (by decide +kernel) (by decide +kernel)
set_option maxRecDepth 20000 in
theorem gJ5_charAt_5068e_J0_checkIndex_df160 : GoodIn wsJ5_charAt_5068e (va_wsS RJ5 144 yJ0_checkIndex_df160 wsJ0_checkIndex_df160) := goodIn_app (goodIn_of _ (by decide +kernel)) ggJ5_charAt_5068e_J0_checkIndex_df160
set_option maxRecDepth 20000 in
theorem ggJ5_charAt_5068e_J2_getChar_3b067 : GoodIn wsJ5_charAt_5068e wsJ2_getChar_3b067 := goodIn_r _ [20, 21, 22, 23, 24, 25, 19, 26] (by decide +kernel) (by decide +kernel)
set_option maxRecDepth 20000 in
theorem gJ5_charAt_5068e_J2_getChar_3b067 : GoodIn wsJ5_charAt_5068e (va_wsS RJ5 148 yJ2_getChar_3b067 wsJ2_getChar_3b067) := goodIn_app (goodIn_of _ (by decide +kernel)) ggJ5_charAt_5068e_J2_getChar_3b067
theorem dJ5_charAt_5068e_0 : decode cJ5_charAt_5068e 0 = .ok (.aload_n 0, 1) := by decide +kernel
theorem dJ5_charAt_5068e_1 : decode cJ5_charAt_5068e 1 = .ok (.getfield 22, 3) := by decide +kernel
theorem dJ5_charAt_5068e_4 : decode cJ5_charAt_5068e 4 = .ok (.istore_n 2, 1) := by decide +kernel
theorem dJ5_charAt_5068e_5 : decode cJ5_charAt_5068e 5 = .ok (.aload_n 0, 1) := by decide +kernel
theorem dJ5_charAt_5068e_6 : decode cJ5_charAt_5068e 6 = .ok (.getfield 15, 3) := by decide +kernel
theorem dJ5_charAt_5068e_9 : decode cJ5_charAt_5068e 9 = .ok (.astore_n 3, 1) := by decide +kernel
theorem dJ5_charAt_5068e_10 : decode cJ5_charAt_5068e 10 = .ok (.aload_n 0, 1) := by decide +kernel
theorem dJ5_charAt_5068e_11 : decode cJ5_charAt_5068e 11 = .ok (.getfield 79, 3) := by decide +kernel
theorem dJ5_charAt_5068e_14 : decode cJ5_charAt_5068e 14 = .ok (.aload_n 3, 1) := by decide +kernel
theorem dJ5_charAt_5068e_15 : decode cJ5_charAt_5068e 15 = .ok (.arraylength, 1) := by decide +kernel
theorem dJ5_charAt_5068e_16 : decode cJ5_charAt_5068e 16 = .ok (.iload_n 2, 1) := by decide +kernel
theorem dJ5_charAt_5068e_17 : decode cJ5_charAt_5068e 17 = .ok (.ishr, 1) := by decide +kernel
theorem dJ5_charAt_5068e_18 : decode cJ5_charAt_5068e 18 = .ok (.invokestatic 138, 3) := by decide +kernel
theorem dJ5_charAt_5068e_21 : decode cJ5_charAt_5068e 21 = .ok (.istore 4, 2) := by decide +kernel
theorem dJ5_charAt_5068e_23 : decode cJ5_charAt_5068e 23 = .ok (.iload_n 1, 1) := by decide +kernel
theorem dJ5_charAt_5068e_24 : decode cJ5_charAt_5068e 24 = .ok (.iload 4, 2) := by decide +kernel
theorem dJ5_charAt_5068e_26 : decode cJ5_charAt_5068e 26 = .ok (.invokestatic 144, 3) := by decide +kernel
theorem dJ5_charAt_5068e_29 : decode cJ5_charAt_5068e 29 = .ok (.iload_n 2, 1) := by decide +kernel
theorem dJ5_charAt_5068e_30 : decode cJ5_charAt_5068e 30 = .ok (.ifCond .ne 12, 3) := by decide +kernel
theorem dJ5_charAt_5068e_33 : decode cJ5_charAt_5068e 33 = .ok (.aload_n 3, 1) := by decide +kernel
theorem dJ5_charAt_5068e_34 : decode cJ5_charAt_5068e 34 = .ok (.iload_n 1, 1) := by decide +kernel
theorem dJ5_charAt_5068e_35 : decode cJ5_charAt_5068e 35 = .ok (.baload, 1) := by decide +kernel
theorem dJ5_charAt_5068e_36 : decode cJ5_charAt_5068e 36 = .ok (.sipush 255, 3) := by decide +kernel
theorem dJ5_charAt_5068e_39 : decode cJ5_charAt_5068e 39 = .ok (.iand, 1) := by decide +kernel
theorem dJ5_charAt_5068e_40 : decode cJ5_charAt_5068e 40 = .ok (.i2c, 1) := by decide +kernel
theorem dJ5_charAt_5068e_41 : decode cJ5_charAt_5068e 41 = .ok (.ireturn, 1) := by decide +kernel
theorem dJ5_charAt_5068e_42 : decode cJ5_charAt_5068e 42 = .ok (.aload_n 3, 1) := by decide +kernel
theorem dJ5_charAt_5068e_43 : decode cJ5_charAt_5068e 43 = .ok (.iload_n 1, 1) := by decide +kernel
theorem dJ5_charAt_5068e_44 : decode cJ5_charAt_5068e 44 = .ok (.invokestatic 148, 3) := by decide +kernel
theorem dJ5_charAt_5068e_47 : decode cJ5_charAt_5068e 47 = .ok (.ireturn, 1) := by decide +kernel
set_option maxRecDepth 20000 in
theorem ggJ5_append_cf1ce_J5_appendNull_278bc : GoodIn wsJ5_append_cf1ce wsJ5_appendNull_278bc := goodIn_r _ [7, 1, 8, 9, 10, 11, 12, 6, 13, 14, 15, 16, 17, 18, 19, 20, 21, 22, 23, 24, 25, 26, 27, 28, 29, 30, 31, 32, 33, 34, 35, 36, 37, 38, 39, 40, 41, 42, 43, 44, 45, 46, 47, 48, 49, 50, 51, 52, 53, 54, 55, 56, 57, 58, 59, 60, 61, 62, 63, 64, 65, 66, 67, 68, 69, 70, 71, 72, 73, 74, 75, 76, 77, 78, 79, 80, 81, 138, 139, 140, 141] (by decide +kernel) (by decide +kernel)
set_option maxRecDepth 20000 in
theorem gJ5_append_cf1ce_J5_appendNull_278bc_u204J4 : GoodIn wsJ5_append_cf1ce (va_wsU RJ5 204 RJ4 "java/lang/AbstractStringBuilder" ⟨"java/lang/AbstractStringBuilder", "appendNull", "()Ljava/lang/AbstractStringBuilder;"⟩ yJ5_appendNull_278bc wsJ5_appendNull_278bc) := goodIn_app (goodIn_of _ (by decide +kernel)) ggJ5_append_cf1ce_J5_appendNull_278bc
set_option maxRecDepth 20000 in
theorem ggJ5_append_cf1ce_J0_length_8abf5 : GoodIn wsJ5_append_cf1ce wsJ0_length_8abf5 := goodIn_r _ [85, 86, 87, 88, 89, 70, 90, 91, 92] (by decide +kernel) (by decide +kernel)
set_option maxRecDepth 20000 in
theorem gJ5_append_cf1ce_J0_length_8abf5 : GoodIn wsJ5_append_cf1ce (wsV RJ5 32 RJ0 yJ0_length_8abf5 wsJ0_length_8abf5) := goodIn_app (goodIn_of _ (by decide +kernel)) ggJ5_append_cf1ce_J0_length_8abf5
set_option maxRecDepth 20000 in
theorem ggJ5_append_cf1ce_J5_ensureCapacityInternal_d00df : GoodIn wsJ5_append_cf1ce wsJ5_ensureCapacityInternal_d00df := goodIn_r _ [13, 8, 14, 15, 16, 17, 18, 6, 19, 20, 21, 22, 23, 24, 25, 26, 27, 28, 29, 30, 31, 32, 33, 34, 35, 36, 37, 38, 39, 40, 41, 42, 43, 44, 45, 46, 47, 48, 49, 50, 138, 139, 140, 141] (by decide +kernel) (by decide +kernel)
set_option maxRecDepth 20000 in
theorem gJ5_append_cf1ce_J5_ensureCapacityInternal_d00df_u100J4 : GoodIn wsJ5_append_cf1ce (va_wsU RJ5 100 RJ4 "java/lang/AbstractStringBuilder" ⟨"java/lang/AbstractStringBuilder", "ensureCapacityInternal", "(I)V"⟩ yJ5_ensureCapacityInternal_d00df wsJ5_ensureCapacityInternal_d00df) := goodIn_app (goodIn_of _ (by decide +kernel)) ggJ5_append_cf1ce_J5_ensureCapacityInternal_d00df
set_option maxRecDepth 20000 in
theorem ggJ5_append_cf1ce_J5_putStringAt_47b60 : GoodIn wsJ5_append_cf1ce wsJ5_putStringAt_47b60 := goodIn_r _ [97, 8, 14, 98, 99, 100, 101, 6, 102, 56, 103, 88, 89, 70, 90, 91, 92, 104, 105, 106, 107, 108, 1, 51, 52, 53, 54, 55, 109, 110, 59, 111, 43, 112, 113, 114, 115, 116, 117, 118, 119, 120, 121, 122, 123, 124, 125, 65, 66, 67, 126, 127, 128, 72, 129, 130, 75, 131, 77, 78, 79, 61, 80, 81, 132, 133, 134, 135, 86, 136, 48, 49, 50, 87, 137, 138, 139, 140, 141] (by decide +kernel) (by decide +kernel)
set_option maxRecDepth 20000 in
theorem gJ5_append_cf1ce_J5_putStringAt_47b60_u208J4 : GoodIn wsJ5_append_cf1ce (va_wsU RJ5 208 RJ4 "java/lang/AbstractStringBuilder" ⟨"java/lang/AbstractStringBuilder", "putStringAt", "(ILjava/lang/String;)V"⟩ yJ5_putStringAt_47b60 wsJ5_putStringAt_47b60) := goodIn_app (goodIn_of _ (by decide +kernel)) ggJ5_append_cf1ce_J5_putStringAt_47b60
theorem dJ5_append_cf1ce_0 : decode cJ5_append_cf1ce 0 = .ok (.aload_n 1, 1) := by decide +kernel
theorem dJ5_append_cf1ce_1 : decode cJ5_append_cf1ce 1 = .ok (.ifnonnull 8, 3) := by decide +kernel
theorem dJ5_append_cf1ce_4 : decode cJ5_append_cf1ce 4 = .ok (.aload_n 0, 1) := by decide +kernel
theorem dJ5_append_cf1ce_5 : decode cJ5_append_cf1ce 5 = .ok (.invokevirtual 204, 3) := by decide +kernel
theorem dJ5_append_cf1ce_8 : decode cJ5_append_cf1ce 8 = .ok (.areturn, 1) := by decide +kernel
theorem dJ5_append_cf1ce_9 : decode cJ5_append_cf1ce 9 = .ok (.aload_n 1, 1) := by decide +kernel
theorem dJ5_append_cf1ce_10 : decode cJ5_append_cf1ce 10 = .ok (.invokevirtual 32, 3) := by decide +kernel
theorem dJ5_append_cf1ce_13 : decode cJ5_append_cf1ce 13 = .ok (.istore_n 2, 1) := by decide +kernel
theorem dJ5_append_cf1ce_14 : decode cJ5_append_cf1ce 14 = .ok (.aload_n 0, 1) := by decide +kernel
theorem dJ5_append_cf1ce_15 : decode cJ5_append_cf1ce 15 = .ok (.aload_n 0, 1) := by decide +kernel
theorem dJ5_append_cf1ce_16 : decode cJ5_append_cf1ce 16 = .ok (.getfield 79, 3) := by decide +kernel
theorem dJ5_append_cf1ce_19 : decode cJ5_append_cf1ce 19 = .ok (.iload_n 2, 1) := by decide +kernel
theorem dJ5_append_cf1ce_20 : decode cJ5_append_cf1ce 20 = .ok (.iadd, 1) := by decide +kernel
theorem dJ5_append_cf1ce_21 : decode cJ5_append_cf1ce 21 = .ok (.invokevirtual 100, 3) := by decide +kernel
theorem dJ5_append_cf1ce_24 : decode cJ5_append_cf1ce 24 = .ok (.aload_n 0, 1) := by decide +kernel
theorem dJ5_append_cf1ce_25 : decode cJ5_append_cf1ce 25 = .ok (.aload_n 0, 1) := by decide +kernel
theorem dJ5_append_cf1ce_26 : decode cJ5_append_cf1ce 26 = .ok (.getfield 79, 3) := by decide +kernel
theorem dJ5_append_cf1ce_29 : decode cJ5_append_cf1ce 29 = .ok (.aload_n 1, 1) := by decide +kernel
theorem dJ5_append_cf1ce_30 : decode cJ5_append_cf1ce 30 = .ok (.invokevirtual 208, 3) := by decide +kernel
theorem dJ5_append_cf1ce_33 : decode cJ5_append_cf1ce 33 = .ok (.aload_n 0, 1) := by decide +kernel
theorem dJ5_append_cf1ce_34 : decode cJ5_append_cf1ce 34 = .ok (.dup, 1) := by decide +kernel
theorem dJ5_append_cf1ce_35 : decode cJ5_append_cf1ce 35 = .ok (.getfield 79, 3) := by decide +kernel
theorem dJ5_append_cf1ce_38 : decode cJ5_append_cf1ce 38 = .ok (.iload_n 2, 1) := by decide +kernel
theorem dJ5_append_cf1ce_39 : decode cJ5_append_cf1ce 39 = .ok (.iadd, 1) := by decide +kernel
theorem dJ5_append_cf1ce_40 : decode cJ5_append_cf1ce 40 = .ok (.putfield 79, 3) := by decide +kernel
theorem dJ5_append_cf1ce_43 : decode cJ5_append_cf1ce 43 = .ok (.aload_n 0, 1) := by decide +kernel
theorem dJ5_append_cf1ce_44 : decode cJ5_append_cf1ce 44 = .ok (.areturn, 1) := by decide +kernel
set_option maxRecDepth 20000 in
theorem ggJ5_appendNull_278bc_J5_ensureCapacityInternal_d00df : GoodIn wsJ5_appendNull_278bc wsJ5_ensureCapacityInternal_d00df := goodIn_r _ [8, 2, 9, 10, 11, 12, 13, 7, 14, 15, 16, 17, 18, 19, 20, 21, 22, 23, 24, 25, 26, 27, 28, 29, 30, 31, 32, 33, 34, 35, 36, 37, 38, 39, 40, 41, 42, 43, 44, 45, 77, 78, 79, 80] (by decide +kernel) (by decide +kernel)
set_option maxRecDepth 20000 in
theorem gJ5_appendNull_278bc_J5_ensureCapacityInternal_d00df_u100J4 : GoodIn wsJ5_appendNull_278bc (va_wsU RJ5 100 RJ4 "java/lang/AbstractStringBuilder" ⟨"java/lang/AbstractStringBuilder", "ensureCapacityInternal", "(I)V"⟩ yJ5_ensureCapacityInternal_d00df wsJ5_ensureCapacityInternal_d00df) := goodIn_app (goodIn_of _ (by decide +kernel)) ggJ5_appendNull_278bc_J5_ensureCapacityInternal_d00df
set_option maxRecDepth 20000 in
theorem ggJ5_appendNull_278bc_J5_isLatin1_aae02 : GoodIn wsJ5_appendNull_278bc wsJ5_isLatin1_aae02 := goodIn_r _ [50, 51, 9, 77, 78, 79, 80] (by decide +kernel) (by decide +kernel)
set_option maxRecDepth 20000 in
theorem gJ5_appendNull_278bc_J5_isLatin1_aae02_u83J4 : GoodIn wsJ5_appendNull_278bc (va_wsU RJ5 83 RJ4 "java/lang/AbstractStringBuilder" ⟨"java/lang/AbstractStringBuilder", "isLatin1", "()Z"⟩ yJ5_isLatin1_aae02 wsJ5_isLatin1_aae02) := goodIn_app (goodIn_of _ (by decide +kernel)) ggJ5_appendNull_278bc_J5_isLatin1_aae02
set_option maxRecDepth 20000 in
theorem ggJ5_appendNull_278bc_J2_putCharsAt_cd4e5 : GoodIn wsJ5_appendNull_278bc wsJ2_putCharsAt_cd4e5 := goodIn_r _ [55, 56, 57, 58, 54, 59, 60, 61, 62, 63, 64, 65, 66, 67, 68, 69, 70, 71, 72, 73, 74, 75, 76] (by decide +kernel) (by decide +kernel)
set_option maxRecDepth 20000 in
theorem gJ5_appendNull_278bc_J2_putCharsAt_cd4e5 : GoodIn wsJ5_appendNull_278bc (va_wsS RJ5 226 yJ2_putCharsAt_cd4e5 wsJ2_putCharsAt_cd4e5) := goodIn_app (goodIn_of _ (by decide +kernel)) ggJ5_appendNull_278bc_J2_putCharsAt_cd4e5
theorem dJ5_appendNull_278bc_0 : decode cJ5_appendNull_278bc 0 = .ok (.aload_n 0, 1) := by decide +kernel
theorem dJ5_appendNull_278bc_1 : decode cJ5_appendNull_278bc 1 = .ok (.aload_n 0, 1) := by decide +kernel
theorem dJ5_appendNull_278bc_2 : decode cJ5_appendNull_278bc 2 = .ok (.getfield 79, 3) := by decide +kernel
theorem dJ5_appendNull_278bc_5 : decode cJ5_appendNull_278bc 5 = .ok (.iconst 4, 1) := by decide +kernel
theorem dJ5_appendNull_278bc_6 : decode cJ5_appendNull_278bc 6 = .ok (.iadd, 1) := by decide +kernel
theorem dJ5_appendNull_278bc_7 : decode cJ5_appendNull_278bc 7 = .ok (.invokevirtual 100, 3) := by decide +kernel
theorem dJ5_appendNull_278bc_10 : decode cJ5_appendNull_278bc 10 = .ok (.aload_n 0, 1) := by decide +kernel
theorem dJ5_appendNull_278bc_11 : decode cJ5_appendNull_278bc 11 = .ok (.getfield 79, 3) := by decide +kernel
theorem dJ5_appendNull_278bc_14 : decode cJ5_appendNull_278bc 14 = .ok (.istore_n 1, 1) := by decide +kernel
theorem dJ5_appendNull_278bc_15 : decode cJ5_appendNull_278bc 15 = .ok (.aload_n 0, 1) := by decide +kernel
theorem dJ5_appendNull_278bc_16 : decode cJ5_appendNull_278bc 16 = .ok (.getfield 15, 3) := by decide +kernel
theorem dJ5_appendNull_278bc_19 : decode cJ5_appendNull_278bc 19 = .ok (.astore_n 2, 1) := by decide +kernel
theorem dJ5_appendNull_278bc_20 : decode cJ5_appendNull_278bc 20 = .ok (.aload_n 0, 1) := by decide +kernel
theorem dJ5_appendNull_278bc_21 : decode cJ5_appendNull_278bc 21 = .ok (.invokevirtual 83, 3) := by decide +kernel
theorem dJ5_appendNull_278bc_24 : decode cJ5_appendNull_278bc 24 = .ok (.ifCond .eq 38, 3) := by decide +kernel
theorem dJ5_appendNull_278bc_27 : decode cJ5_appendNull_278bc 27 = .ok (.aload_n 2, 1) := by decide +kernel
theorem dJ5_appendNull_278bc_28 : decode cJ5_appendNull_278bc 28 = .ok (.iload_n 1, 1) := by decide +kernel
