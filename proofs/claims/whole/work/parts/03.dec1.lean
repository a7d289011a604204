theorem dX5_hasLink_5 : decode cX5_hasLink 5 = .ok (.aload_n 0, 1) := by decide +kernel
theorem dX5_hasLink_6 : decode cX5_hasLink 6 = .ok (.getfield 15, 3) := by decide +kernel
theorem dX5_hasLink_9 : decode cX5_hasLink 9 = .ok (.if_icmp .ge 7, 3) := by decide +kernel
theorem dX5_hasLink_12 : decode cX5_hasLink 12 = .ok (.iconst 1, 1) := by decide +kernel
theorem dX5_hasLink_13 : decode cX5_hasLink 13 = .ok (.goto 4, 3) := by decide +kernel
theorem dX5_hasLink_16 : decode cX5_hasLink 16 = .ok (.iconst 0, 1) := by decide +kernel
theorem dX5_hasLink_17 : decode cX5_hasLink 17 = .ok (.ireturn, 1) := by decide +kernel
set_option maxRecDepth 20000 in
theorem ggX5_lengthOf_X5_hasLink : GoodIn wsX5_lengthOf wsX5_hasLink := goodIn_r _ [6, 7, 8, 9, 10, 11] (by decide +kernel) (by decide +kernel)
set_option maxRecDepth 20000 in
theorem gX5_lengthOf_X5_hasLink : GoodIn wsX5_lengthOf (wsV RX5 29 RX5 yX5_hasLink wsX5_hasLink) := goodIn_app (goodIn_of _ (by decide +kernel)) ggX5_lengthOf_X5_hasLink
theorem dX5_lengthOf_0 : decode cX5_lengthOf 0 = .ok (.aload_n 0, 1) := by decide +kernel
theorem dX5_lengthOf_1 : decode cX5_lengthOf 1 = .ok (.iload_n 1, 1) := by decide +kernel
theorem dX5_lengthOf_2 : decode cX5_lengthOf 2 = .ok (.invokevirtual 29, 3) := by decide +kernel
theorem dX5_lengthOf_5 : decode cX5_lengthOf 5 = .ok (.ifCond .eq 12, 3) := by decide +kernel
theorem dX5_lengthOf_8 : decode cX5_lengthOf 8 = .ok (.aload_n 0, 1) := by decide +kernel
theorem dX5_lengthOf_9 : decode cX5_lengthOf 9 = .ok (.getfield 9, 3) := by decide +kernel
theorem dX5_lengthOf_12 : decode cX5_lengthOf 12 = .ok (.iload_n 1, 1) := by decide +kernel
theorem dX5_lengthOf_13 : decode cX5_lengthOf 13 = .ok (.iaload, 1) := by decide +kernel
theorem dX5_lengthOf_14 : decode cX5_lengthOf 14 = .ok (.goto 4, 3) := by decide +kernel
theorem dX5_lengthOf_17 : decode cX5_lengthOf 17 = .ok (.iconst 0, 1) := by decide +kernel
theorem dX5_lengthOf_18 : decode cX5_lengthOf 18 = .ok (.ireturn, 1) := by decide +kernel
theorem dX5_joints_0 : decode cX5_joints 0 = .ok (.aload_n 0, 1) := by decide +kernel
theorem dX5_joints_1 : decode cX5_joints 1 = .ok (.getfield 15, 3) := by decide +kernel
theorem dX5_joints_4 : decode cX5_joints 4 = .ok (.iconst 1, 1) := by decide +kernel
theorem dX5_joints_5 : decode cX5_joints 5 = .ok (.isub, 1) := by decide +kernel
theorem dX5_joints_6 : decode cX5_joints 6 = .ok (.iconst 0, 1) := by decide +kernel
theorem dX5_joints_7 : decode cX5_joints 7 = .ok (.invokestatic 33, 3) := by decide +kernel
theorem dX5_joints_10 : decode cX5_joints 10 = .ok (.ireturn, 1) := by decide +kernel
set_option maxRecDepth 20000 in
theorem ggX5_freeJoints_X5_joints : GoodIn wsX5_freeJoints wsX5_joints := goodIn_r _ [6, 7, 8, 9, 10, 11, 19, 20, 21, 22] (by decide +kernel) (by decide +kernel)
set_option maxRecDepth 20000 in
theorem gX5_freeJoints_X5_joints : GoodIn wsX5_freeJoints (wsV RX5 39 RX5 yX5_joints wsX5_joints) := goodIn_app (goodIn_of _ (by decide +kernel)) ggX5_freeJoints_X5_joints
set_option maxRecDepth 20000 in
theorem ggX5_freeJoints_J6_bitCount_0f7a4 : GoodIn wsX5_freeJoints wsJ6_bitCount_0f7a4 := goodIn_r _ [15, 16, 17, 18] (by decide +kernel) (by decide +kernel)
set_option maxRecDepth 20000 in
theorem gX5_freeJoints_J6_bitCount_0f7a4 : GoodIn wsX5_freeJoints (va_wsS RX5 43 yJ6_bitCount_0f7a4 wsJ6_bitCount_0f7a4) := goodIn_app (goodIn_of _ (by decide +kernel)) ggX5_freeJoints_J6_bitCount_0f7a4
theorem dX5_freeJoints_0 : decode cX5_freeJoints 0 = .ok (.aload_n 0, 1) := by decide +kernel
theorem dX5_freeJoints_1 : decode cX5_freeJoints 1 = .ok (.invokevirtual 39, 3) := by decide +kernel
theorem dX5_freeJoints_4 : decode cX5_freeJoints 4 = .ok (.aload_n 0, 1) := by decide +kernel
theorem dX5_freeJoints_5 : decode cX5_freeJoints 5 = .ok (.getfield 22, 3) := by decide +kernel
theorem dX5_freeJoints_8 : decode cX5_freeJoints 8 = .ok (.invokestatic 43, 3) := by decide +kernel
theorem dX5_freeJoints_11 : decode cX5_freeJoints 11 = .ok (.isub, 1) := by decide +kernel
theorem dX5_freeJoints_12 : decode cX5_freeJoints 12 = .ok (.ireturn, 1) := by decide +kernel
set_option maxRecDepth 20000 in
theorem ggX5_hasJoint_X5_joints : GoodIn wsX5_hasJoint wsX5_joints := goodIn_r _ [5, 6, 7, 8, 9, 10, 11, 12, 13, 14] (by decide +kernel) (by decide +kernel)
set_option maxRecDepth 20000 in
theorem gX5_hasJoint_X5_joints : GoodIn wsX5_hasJoint (wsV RX5 39 RX5 yX5_joints wsX5_joints) := goodIn_app (goodIn_of _ (by decide +kernel)) ggX5_hasJoint_X5_joints
theorem dX5_hasJoint_0 : decode cX5_hasJoint 0 = .ok (.iload_n 1, 1) := by decide +kernel
theorem dX5_hasJoint_1 : decode cX5_hasJoint 1 = .ok (.ifCond .lt 15, 3) := by decide +kernel
theorem dX5_hasJoint_4 : decode cX5_hasJoint 4 = .ok (.iload_n 1, 1) := by decide +kernel
theorem dX5_hasJoint_5 : decode cX5_hasJoint 5 = .ok (.aload_n 0, 1) := by decide +kernel
theorem dX5_hasJoint_6 : decode cX5_hasJoint 6 = .ok (.invokevirtual 39, 3) := by decide +kernel
theorem dX5_hasJoint_9 : decode cX5_hasJoint 9 = .ok (.if_icmp .ge 7, 3) := by decide +kernel
theorem dX5_hasJoint_12 : decode cX5_hasJoint 12 = .ok (.iconst 1, 1) := by decide +kernel
theorem dX5_hasJoint_13 : decode cX5_hasJoint 13 = .ok (.goto 4, 3) := by decide +kernel
theorem dX5_hasJoint_16 : decode cX5_hasJoint 16 = .ok (.iconst 0, 1) := by decide +kernel
theorem dX5_hasJoint_17 : decode cX5_hasJoint 17 = .ok (.ireturn, 1) := by decide +kernel
set_option maxRecDepth 20000 in
theorem ggX5_canFile_X5_lengthOf : GoodIn wsX5_canFile wsX5_lengthOf := goodIn_r _ [5, 6, 7, 8, 9, 4, 10, 11, 12, 13, 14, 15] (by decide +kernel) (by decide +kernel)
set_option maxRecDepth 20000 in
theorem gX5_canFile_X5_lengthOf : GoodIn wsX5_canFile (wsV RX5 49 RX5 yX5_lengthOf wsX5_lengthOf) := goodIn_app (goodIn_of _ (by decide +kernel)) ggX5_canFile_X5_lengthOf
theorem dX5_canFile_0 : decode cX5_canFile 0 = .ok (.aload_n 0, 1) := by decide +kernel
theorem dX5_canFile_1 : decode cX5_canFile 1 = .ok (.iload_n 1, 1) := by decide +kernel
theorem dX5_canFile_2 : decode cX5_canFile 2 = .ok (.invokevirtual 49, 3) := by decide +kernel
theorem dX5_canFile_5 : decode cX5_canFile 5 = .ok (.iload_n 2, 1) := by decide +kernel
theorem dX5_canFile_6 : decode cX5_canFile 6 = .ok (.isub, 1) := by decide +kernel
theorem dX5_canFile_7 : decode cX5_canFile 7 = .ok (.iconst 1, 1) := by decide +kernel
theorem dX5_canFile_8 : decode cX5_canFile 8 = .ok (.if_icmp .lt 7, 3) := by decide +kernel
theorem dX5_canFile_11 : decode cX5_canFile 11 = .ok (.iconst 1, 1) := by decide +kernel
theorem dX5_canFile_12 : decode cX5_canFile 12 = .ok (.goto 4, 3) := by decide +kernel
theorem dX5_canFile_15 : decode cX5_canFile 15 = .ok (.iconst 0, 1) := by decide +kernel
theorem dX5_canFile_16 : decode cX5_canFile 16 = .ok (.ireturn, 1) := by decide +kernel
set_option maxRecDepth 20000 in
theorem ggX5_file_X5_hasLink : GoodIn wsX5_file wsX5_hasLink := goodIn_r _ [6, 7, 8, 9, 10, 11] (by decide +kernel) (by decide +kernel)
set_option maxRecDepth 20000 in
theorem gX5_file_X5_hasLink : GoodIn wsX5_file (wsV RX5 29 RX5 yX5_hasLink wsX5_hasLink) := goodIn_app (goodIn_of _ (by decide +kernel)) ggX5_file_X5_hasLink
theorem dX5_file_0 : decode cX5_file 0 = .ok (.aload_n 0, 1) := by decide +kernel
theorem dX5_file_1 : decode cX5_file 1 = .ok (.iload_n 1, 1) := by decide +kernel
theorem dX5_file_2 : decode cX5_file 2 = .ok (.invokevirtual 29, 3) := by decide +kernel
theorem dX5_file_5 : decode cX5_file 5 = .ok (.ifCond .eq 13, 3) := by decide +kernel
theorem dX5_file_8 : decode cX5_file 8 = .ok (.aload_n 0, 1) := by decide +kernel
theorem dX5_file_9 : decode cX5_file 9 = .ok (.getfield 9, 3) := by decide +kernel
theorem dX5_file_12 : decode cX5_file 12 = .ok (.iload_n 1, 1) := by decide +kernel
theorem dX5_file_13 : decode cX5_file 13 = .ok (.dup2, 1) := by decide +kernel
theorem dX5_file_14 : decode cX5_file 14 = .ok (.iaload, 1) := by decide +kernel
theorem dX5_file_15 : decode cX5_file 15 = .ok (.iload_n 2, 1) := by decide +kernel
theorem dX5_file_16 : decode cX5_file 16 = .ok (.isub, 1) := by decide +kernel
theorem dX5_file_17 : decode cX5_file 17 = .ok (.iastore, 1) := by decide +kernel
theorem dX5_file_18 : decode cX5_file 18 = .ok (.return_, 1) := by decide +kernel
theorem dX5_bend_0 : decode cX5_bend 0 = .ok (.aload_n 0, 1) := by decide +kernel
theorem dX5_bend_1 : decode cX5_bend 1 = .ok (.dup, 1) := by decide +kernel
theorem dX5_bend_2 : decode cX5_bend 2 = .ok (.getfield 19, 3) := by decide +kernel
theorem dX5_bend_5 : decode cX5_bend 5 = .ok (.iconst 1, 1) := by decide +kernel
theorem dX5_bend_6 : decode cX5_bend 6 = .ok (.iload_n 1, 1) := by decide +kernel
theorem dX5_bend_7 : decode cX5_bend 7 = .ok (.ishl, 1) := by decide +kernel
theorem dX5_bend_8 : decode cX5_bend 8 = .ok (.ixor, 1) := by decide +kernel
theorem dX5_bend_9 : decode cX5_bend 9 = .ok (.putfield 19, 3) := by decide +kernel
theorem dX5_bend_12 : decode cX5_bend 12 = .ok (.return_, 1) := by decide +kernel
set_option maxRecDepth 20000 in
theorem ggX5_turnAbout_X5_inOtherOrder : GoodIn wsX5_turnAbout wsX5_inOtherOrder := goodIn_r _ [9, 10, 11, 12, 8, 13, 1, 14, 15, 16, 17, 18, 19, 20, 21] (by decide +kernel) (by decide +kernel)
set_option maxRecDepth 20000 in
theorem gX5_turnAbout_X5_inOtherOrder : GoodIn wsX5_turnAbout (wsV RX5 52 RX5 yX5_inOtherOrder wsX5_inOtherOrder) := goodIn_app (goodIn_of _ (by decide +kernel)) ggX5_turnAbout_X5_inOtherOrder
theorem dX5_turnAbout_0 : decode cX5_turnAbout 0 = .ok (.iconst 0, 1) := by decide +kernel
theorem dX5_turnAbout_1 : decode cX5_turnAbout 1 = .ok (.istore_n 1, 1) := by decide +kernel
theorem dX5_turnAbout_2 : decode cX5_turnAbout 2 = .ok (.aload_n 0, 1) := by decide +kernel
theorem dX5_turnAbout_3 : decode cX5_turnAbout 3 = .ok (.getfield 15, 3) := by decide +kernel
theorem dX5_turnAbout_6 : decode cX5_turnAbout 6 = .ok (.iconst 1, 1) := by decide +kernel
theorem dX5_turnAbout_7 : decode cX5_turnAbout 7 = .ok (.isub, 1) := by decide +kernel
theorem dX5_turnAbout_8 : decode cX5_turnAbout 8 = .ok (.istore_n 2, 1) := by decide +kernel
theorem dX5_turnAbout_9 : decode cX5_turnAbout 9 = .ok (.iload_n 1, 1) := by decide +kernel
theorem dX5_turnAbout_10 : decode cX5_turnAbout 10 = .ok (.iload_n 2, 1) := by decide +kernel
theorem dX5_turnAbout_11 : decode cX5_turnAbout 11 = .ok (.if_icmp .ge 38, 3) := by decide +kernel
theorem dX5_turnAbout_14 : decode cX5_turnAbout 14 = .ok (.aload_n 0, 1) := by decide +kernel
theorem dX5_turnAbout_15 : decode cX5_turnAbout 15 = .ok (.getfield 9, 3) := by decide +kernel
theorem dX5_turnAbout_18 : decode cX5_turnAbout 18 = .ok (.iload_n 1, 1) := by decide +kernel
theorem dX5_turnAbout_19 : decode cX5_turnAbout 19 = .ok (.iaload, 1) := by decide +kernel
theorem dX5_turnAbout_20 : decode cX5_turnAbout 20 = .ok (.istore_n 3, 1) := by decide +kernel
theorem dX5_turnAbout_21 : decode cX5_turnAbout 21 = .ok (.aload_n 0, 1) := by decide +kernel
theorem dX5_turnAbout_22 : decode cX5_turnAbout 22 = .ok (.getfield 9, 3) := by decide +kernel
theorem dX5_turnAbout_25 : decode cX5_turnAbout 25 = .ok (.iload_n 1, 1) := by decide +kernel
theorem dX5_turnAbout_26 : decode cX5_turnAbout 26 = .ok (.aload_n 0, 1) := by decide +kernel
theorem dX5_turnAbout_27 : decode cX5_turnAbout 27 = .ok (.getfield 9, 3) := by decide +kernel
theorem dX5_turnAbout_30 : decode cX5_turnAbout 30 = .ok (.iload_n 2, 1) := by decide +kernel
theorem dX5_turnAbout_31 : decode cX5_turnAbout 31 = .ok (.iaload, 1) := by decide +kernel
theorem dX5_turnAbout_32 : decode cX5_turnAbout 32 = .ok (.iastore, 1) := by decide +kernel
theorem dX5_turnAbout_33 : decode cX5_turnAbout 33 = .ok (.aload_n 0, 1) := by decide +kernel
theorem dX5_turnAbout_34 : decode cX5_turnAbout 34 = .ok (.getfield 9, 3) := by decide +kernel
theorem dX5_turnAbout_37 : decode cX5_turnAbout 37 = .ok (.iload_n 2, 1) := by decide +kernel
theorem dX5_turnAbout_38 : decode cX5_turnAbout 38 = .ok (.iload_n 3, 1) := by decide +kernel
theorem dX5_turnAbout_39 : decode cX5_turnAbout 39 = .ok (.iastore, 1) := by decide +kernel
theorem dX5_turnAbout_40 : decode cX5_turnAbout 40 = .ok (.iinc 1 1, 3) := by decide +kernel
theorem dX5_turnAbout_43 : decode cX5_turnAbout 43 = .ok (.iinc 2 (-1), 3) := by decide +kernel
theorem dX5_turnAbout_46 : decode cX5_turnAbout 46 = .ok (.goto (-37), 3) := by decide +kernel
theorem dX5_turnAbout_49 : decode cX5_turnAbout 49 = .ok (.aload_n 0, 1) := by decide +kernel
theorem dX5_turnAbout_50 : decode cX5_turnAbout 50 = .ok (.aload_n 0, 1) := by decide +kernel
theorem dX5_turnAbout_51 : decode cX5_turnAbout 51 = .ok (.aload_n 0, 1) := by decide +kernel
theorem dX5_turnAbout_52 : decode cX5_turnAbout 52 = .ok (.getfield 19, 3) := by decide +kernel
theorem dX5_turnAbout_55 : decode cX5_turnAbout 55 = .ok (.invokevirtual 52, 3) := by decide +kernel
theorem dX5_turnAbout_58 : decode cX5_turnAbout 58 = .ok (.putfield 19, 3) := by decide +kernel
theorem dX5_turnAbout_61 : decode cX5_turnAbout 61 = .ok (.aload_n 0, 1) := by decide +kernel
theorem dX5_turnAbout_62 : decode cX5_turnAbout 62 = .ok (.aload_n 0, 1) := by decide +kernel
theorem dX5_turnAbout_63 : decode cX5_turnAbout 63 = .ok (.aload_n 0, 1) := by decide +kernel
theorem dX5_turnAbout_64 : decode cX5_turnAbout 64 = .ok (.getfield 22, 3) := by decide +kernel
theorem dX5_turnAbout_67 : decode cX5_turnAbout 67 = .ok (.invokevirtual 52, 3) := by decide +kernel
theorem dX5_turnAbout_70 : decode cX5_turnAbout 70 = .ok (.putfield 22, 3) := by decide +kernel
theorem dX5_turnAbout_73 : decode cX5_turnAbout 73 = .ok (.return_, 1) := by decide +kernel
set_option maxRecDepth 20000 in
theorem ggX5_inOtherOrder_X5_joints : GoodIn wsX5_inOtherOrder wsX5_joints := goodIn_r _ [5, 6, 7, 8, 9, 10, 11, 12, 13, 14] (by decide +kernel) (by decide +kernel)
set_option maxRecDepth 20000 in
theorem gX5_inOtherOrder_X5_joints : GoodIn wsX5_inOtherOrder (wsV RX5 39 RX5 yX5_joints wsX5_joints) := goodIn_app (goodIn_of _ (by decide +kernel)) ggX5_inOtherOrder_X5_joints
theorem dX5_inOtherOrder_0 : decode cX5_inOtherOrder 0 = .ok (.iconst 0, 1) := by decide +kernel
theorem dX5_inOtherOrder_1 : decode cX5_inOtherOrder 1 = .ok (.istore_n 2, 1) := by decide +kernel
theorem dX5_inOtherOrder_2 : decode cX5_inOtherOrder 2 = .ok (.iconst 0, 1) := by decide +kernel
theorem dX5_inOtherOrder_3 : decode cX5_inOtherOrder 3 = .ok (.istore_n 3, 1) := by decide +kernel
theorem dX5_inOtherOrder_4 : decode cX5_inOtherOrder 4 = .ok (.iload_n 3, 1) := by decide +kernel
theorem dX5_inOtherOrder_5 : decode cX5_inOtherOrder 5 = .ok (.aload_n 0, 1) := by decide +kernel
theorem dX5_inOtherOrder_6 : decode cX5_inOtherOrder 6 = .ok (.invokevirtual 39, 3) := by decide +kernel
theorem dX5_inOtherOrder_9 : decode cX5_inOtherOrder 9 = .ok (.if_icmp .ge 19, 3) := by decide +kernel
theorem dX5_inOtherOrder_12 : decode cX5_inOtherOrder 12 = .ok (.iload_n 2, 1) := by decide +kernel
theorem dX5_inOtherOrder_13 : decode cX5_inOtherOrder 13 = .ok (.iconst 1, 1) := by decide +kernel
theorem dX5_inOtherOrder_14 : decode cX5_inOtherOrder 14 = .ok (.ishl, 1) := by decide +kernel
theorem dX5_inOtherOrder_15 : decode cX5_inOtherOrder 15 = .ok (.iload_n 1, 1) := by decide +kernel
theorem dX5_inOtherOrder_16 : decode cX5_inOtherOrder 16 = .ok (.iload_n 3, 1) := by decide +kernel
theorem dX5_inOtherOrder_17 : decode cX5_inOtherOrder 17 = .ok (.ishr, 1) := by decide +kernel
theorem dX5_inOtherOrder_18 : decode cX5_inOtherOrder 18 = .ok (.iconst 1, 1) := by decide +kernel
theorem dX5_inOtherOrder_19 : decode cX5_inOtherOrder 19 = .ok (.iand, 1) := by decide +kernel
theorem dX5_inOtherOrder_20 : decode cX5_inOtherOrder 20 = .ok (.ior, 1) := by decide +kernel
theorem dX5_inOtherOrder_21 : decode cX5_inOtherOrder 21 = .ok (.istore_n 2, 1) := by decide +kernel
theorem dX5_inOtherOrder_22 : decode cX5_inOtherOrder 22 = .ok (.iinc 3 1, 3) := by decide +kernel
theorem dX5_inOtherOrder_25 : decode cX5_inOtherOrder 25 = .ok (.goto (-21), 3) := by decide +kernel
theorem dX5_inOtherOrder_28 : decode cX5_inOtherOrder 28 = .ok (.iload_n 2, 1) := by decide +kernel
theorem dX5_inOtherOrder_29 : decode cX5_inOtherOrder 29 = .ok (.ireturn, 1) := by decide +kernel
set_option maxRecDepth 20000 in
theorem ggX5_foldLimit_X5_joints : GoodIn wsX5_foldLimit wsX5_joints := goodIn_r _ [5, 6, 7, 8, 9, 10, 11, 12, 13, 14] (by decide +kernel) (by decide +kernel)
set_option maxRecDepth 20000 in
theorem gX5_foldLimit_X5_joints : GoodIn wsX5_foldLimit (wsV RX5 39 RX5 yX5_joints wsX5_joints) := goodIn_app (goodIn_of _ (by decide +kernel)) ggX5_foldLimit_X5_joints
theorem dX5_foldLimit_0 : decode cX5_foldLimit 0 = .ok (.iconst 1, 1) := by decide +kernel
theorem dX5_foldLimit_1 : decode cX5_foldLimit 1 = .ok (.aload_n 0, 1) := by decide +kernel
theorem dX5_foldLimit_2 : decode cX5_foldLimit 2 = .ok (.invokevirtual 39, 3) := by decide +kernel
theorem dX5_foldLimit_5 : decode cX5_foldLimit 5 = .ok (.ishl, 1) := by decide +kernel
theorem dX5_foldLimit_6 : decode cX5_foldLimit 6 = .ok (.ireturn, 1) := by decide +kernel
set_option maxRecDepth 20000 in
theorem ggX5_isFold_X5_foldLimit : GoodIn wsX5_isFold wsX5_foldLimit := goodIn_r _ [7, 8, 9, 10, 6, 11, 12, 13, 14, 15, 16, 17, 18, 19, 20] (by decide +kernel) (by decide +kernel)
set_option maxRecDepth 20000 in
theorem gX5_isFold_X5_foldLimit : GoodIn wsX5_isFold (wsV RX5 55 RX5 yX5_foldLimit wsX5_foldLimit) := goodIn_app (goodIn_of _ (by decide +kernel)) ggX5_isFold_X5_foldLimit
theorem dX5_isFold_0 : decode cX5_isFold 0 = .ok (.iload_n 1, 1) := by decide +kernel
theorem dX5_isFold_1 : decode cX5_isFold 1 = .ok (.ifCond .lt 29, 3) := by decide +kernel
theorem dX5_isFold_4 : decode cX5_isFold 4 = .ok (.iload_n 1, 1) := by decide +kernel
theorem dX5_isFold_5 : decode cX5_isFold 5 = .ok (.aload_n 0, 1) := by decide +kernel
theorem dX5_isFold_6 : decode cX5_isFold 6 = .ok (.invokevirtual 55, 3) := by decide +kernel
theorem dX5_isFold_9 : decode cX5_isFold 9 = .ok (.if_icmp .ge 21, 3) := by decide +kernel
theorem dX5_isFold_12 : decode cX5_isFold 12 = .ok (.iload_n 1, 1) := by decide +kernel
theorem dX5_isFold_13 : decode cX5_isFold 13 = .ok (.aload_n 0, 1) := by decide +kernel
theorem dX5_isFold_14 : decode cX5_isFold 14 = .ok (.getfield 19, 3) := by decide +kernel
theorem dX5_isFold_17 : decode cX5_isFold 17 = .ok (.ixor, 1) := by decide +kernel
theorem dX5_isFold_18 : decode cX5_isFold 18 = .ok (.aload_n 0, 1) := by decide +kernel
theorem dX5_isFold_19 : decode cX5_isFold 19 = .ok (.getfield 22, 3) := by decide +kernel
theorem dX5_isFold_22 : decode cX5_isFold 22 = .ok (.iand, 1) := by decide +kernel
theorem dX5_isFold_23 : decode cX5_isFold 23 = .ok (.ifCond .ne 7, 3) := by decide +kernel
theorem dX5_isFold_26 : decode cX5_isFold 26 = .ok (.iconst 1, 1) := by decide +kernel
theorem dX5_isFold_27 : decode cX5_isFold 27 = .ok (.goto 4, 3) := by decide +kernel
theorem dX5_isFold_30 : decode cX5_isFold 30 = .ok (.iconst 0, 1) := by decide +kernel
theorem dX5_isFold_31 : decode cX5_isFold 31 = .ok (.ireturn, 1) := by decide +kernel
theorem dX6_init_0 : decode cX6_init 0 = .ok (.aload_n 0, 1) := by decide +kernel
theorem dX6_init_1 : decode cX6_init 1 = .ok (.invokespecial 3, 3) := by decide +kernel
theorem dX6_init_4 : decode cX6_init 4 = .ok (.aload_n 0, 1) := by decide +kernel
theorem dX6_init_5 : decode cX6_init 5 = .ok (.bipush 90, 2) := by decide +kernel
theorem dX6_init_7 : decode cX6_init 7 = .ok (.newarray .int, 2) := by decide +kernel
theorem dX6_init_9 : decode cX6_init 9 = .ok (.putfield 9, 3) := by decide +kernel
theorem dX6_init_12 : decode cX6_init 12 = .ok (.return_, 1) := by decide +kernel
theorem dX6_isFull_0 : decode cX6_isFull 0 = .ok (.aload_n 0, 1) := by decide +kernel
theorem dX6_isFull_1 : decode cX6_isFull 1 = .ok (.getfield 15, 3) := by decide +kernel
theorem dX6_isFull_4 : decode cX6_isFull 4 = .ok (.bipush 90, 2) := by decide +kernel
theorem dX6_isFull_6 : decode cX6_isFull 6 = .ok (.if_icmp .lt 7, 3) := by decide +kernel
theorem dX6_isFull_9 : decode cX6_isFull 9 = .ok (.iconst 1, 1) := by decide +kernel
theorem dX6_isFull_10 : decode cX6_isFull 10 = .ok (.goto 4, 3) := by decide +kernel
theorem dX6_isFull_13 : decode cX6_isFull 13 = .ok (.iconst 0, 1) := by decide +kernel
theorem dX6_isFull_14 : decode cX6_isFull 14 = .ok (.ireturn, 1) := by decide +kernel
set_option maxRecDepth 20000 in
theorem ggX6_append_X6_isFull : GoodIn wsX6_append wsX6_isFull := goodIn_r _ [7, 2, 8, 9, 10, 11] (by decide +kernel) (by decide +kernel)
set_option maxRecDepth 20000 in
theorem gX6_append_X6_isFull : GoodIn wsX6_append (wsV RX6 19 RX6 yX6_isFull wsX6_isFull) := goodIn_app (goodIn_of _ (by decide +kernel)) ggX6_append_X6_isFull
theorem dX6_append_0 : decode cX6_append 0 = .ok (.aload_n 0, 1) := by decide +kernel
theorem dX6_append_1 : decode cX6_append 1 = .ok (.invokevirtual 19, 3) := by decide +kernel
theorem dX6_append_4 : decode cX6_append 4 = .ok (.ifCond .ne 23, 3) := by decide +kernel
theorem dX6_append_7 : decode cX6_append 7 = .ok (.aload_n 0, 1) := by decide +kernel
theorem dX6_append_8 : decode cX6_append 8 = .ok (.getfield 9, 3) := by decide +kernel
theorem dX6_append_11 : decode cX6_append 11 = .ok (.aload_n 0, 1) := by decide +kernel
theorem dX6_append_12 : decode cX6_append 12 = .ok (.getfield 15, 3) := by decide +kernel
theorem dX6_append_15 : decode cX6_append 15 = .ok (.iload_n 1, 1) := by decide +kernel
theorem dX6_append_16 : decode cX6_append 16 = .ok (.iastore, 1) := by decide +kernel
theorem dX6_append_17 : decode cX6_append 17 = .ok (.aload_n 0, 1) := by decide +kernel
theorem dX6_append_18 : decode cX6_append 18 = .ok (.dup, 1) := by decide +kernel
theorem dX6_append_19 : decode cX6_append 19 = .ok (.getfield 15, 3) := by decide +kernel
theorem dX6_append_22 : decode cX6_append 22 = .ok (.iconst 1, 1) := by decide +kernel
theorem dX6_append_23 : decode cX6_append 23 = .ok (.iadd, 1) := by decide +kernel
theorem dX6_append_24 : decode cX6_append 24 = .ok (.putfield 15, 3) := by decide +kernel
theorem dX6_append_27 : decode cX6_append 27 = .ok (.return_, 1) := by decide +kernel
theorem dX6_makeEmpty_0 : decode cX6_makeEmpty 0 = .ok (.aload_n 0, 1) := by decide +kernel
theorem dX6_makeEmpty_1 : decode cX6_makeEmpty 1 = .ok (.iconst 0, 1) := by decide +kernel
theorem dX6_makeEmpty_2 : decode cX6_makeEmpty 2 = .ok (.putfield 15, 3) := by decide +kernel
theorem dX6_makeEmpty_5 : decode cX6_makeEmpty 5 = .ok (.return_, 1) := by decide +kernel
set_option maxRecDepth 20000 in
theorem ggX6_readInto_X5_makeEmpty : GoodIn wsX6_readInto wsX5_makeEmpty := goodIn_r _ [8, 9, 10, 11, 77, 78, 79, 80] (by decide +kernel) (by decide +kernel)
set_option maxRecDepth 20000 in
theorem gX6_readInto_X5_makeEmpty : GoodIn wsX6_readInto (wsV RX6 23 RX5 yX5_makeEmpty wsX5_makeEmpty) := goodIn_app (goodIn_of _ (by decide +kernel)) ggX6_readInto_X5_makeEmpty
set_option maxRecDepth 20000 in
theorem ggX6_readInto_X6_skipBlanks : GoodIn wsX6_readInto wsX6_skipBlanks := goodIn_r _ [16, 1, 3, 17, 18, 19, 15, 20, 21, 73, 74, 75, 76] (by decide +kernel) (by decide +kernel)
set_option maxRecDepth 20000 in
theorem gX6_readInto_X6_skipBlanks : GoodIn wsX6_readInto (wsV RX6 34 RX6 yX6_skipBlanks wsX6_skipBlanks) := goodIn_app (goodIn_of _ (by decide +kernel)) ggX6_readInto_X6_skipBlanks
set_option maxRecDepth 20000 in
theorem ggX6_readInto_X6_readItem : GoodIn wsX6_readInto wsX6_readItem := goodIn_r _ [25, 1, 17, 18, 19, 15, 20, 3, 21, 26, 27, 28, 29, 30, 31, 7, 32, 9, 12, 13, 14, 16, 33, 34, 35, 36, 37, 38, 39, 40, 41, 42, 43, 44, 45, 46, 47, 48, 49, 50, 51, 52, 53, 54, 55, 56, 57, 58, 59, 60, 61, 62, 63, 64, 65, 66, 67, 68, 69, 70, 71, 72, 73, 74, 75, 76, 77, 78, 79, 80] (by decide +kernel) (by decide +kernel)
set_option maxRecDepth 20000 in
theorem gX6_readInto_X6_readItem : GoodIn wsX6_readInto (wsV RX6 37 RX6 yX6_readItem wsX6_readItem) := goodIn_app (goodIn_of _ (by decide +kernel)) ggX6_readInto_X6_readItem
theorem dX6_readInto_0 : decode cX6_readInto 0 = .ok (.aload_n 1, 1) := by decide +kernel
theorem dX6_readInto_1 : decode cX6_readInto 1 = .ok (.invokevirtual 23, 3) := by decide +kernel
theorem dX6_readInto_4 : decode cX6_readInto 4 = .ok (.aload_n 0, 1) := by decide +kernel
theorem dX6_readInto_5 : decode cX6_readInto 5 = .ok (.iconst 0, 1) := by decide +kernel
theorem dX6_readInto_6 : decode cX6_readInto 6 = .ok (.putfield 28, 3) := by decide +kernel
theorem dX6_readInto_9 : decode cX6_readInto 9 = .ok (.aload_n 0, 1) := by decide +kernel
theorem dX6_readInto_10 : decode cX6_readInto 10 = .ok (.iconst 0, 1) := by decide +kernel
theorem dX6_readInto_11 : decode cX6_readInto 11 = .ok (.putfield 31, 3) := by decide +kernel
theorem dX6_readInto_14 : decode cX6_readInto 14 = .ok (.iconst 0, 1) := by decide +kernel
theorem dX6_readInto_15 : decode cX6_readInto 15 = .ok (.istore_n 2, 1) := by decide +kernel
theorem dX6_readInto_16 : decode cX6_readInto 16 = .ok (.iload_n 2, 1) := by decide +kernel
theorem dX6_readInto_17 : decode cX6_readInto 17 = .ok (.bipush 90, 2) := by decide +kernel
theorem dX6_readInto_19 : decode cX6_readInto 19 = .ok (.if_icmp .gt 49, 3) := by decide +kernel
theorem dX6_readInto_22 : decode cX6_readInto 22 = .ok (.aload_n 0, 1) := by decide +kernel
theorem dX6_readInto_23 : decode cX6_readInto 23 = .ok (.invokevirtual 34, 3) := by decide +kernel
theorem dX6_readInto_26 : decode cX6_readInto 26 = .ok (.aload_n 0, 1) := by decide +kernel
theorem dX6_readInto_27 : decode cX6_readInto 27 = .ok (.getfield 28, 3) := by decide +kernel
theorem dX6_readInto_30 : decode cX6_readInto 30 = .ok (.aload_n 0, 1) := by decide +kernel
theorem dX6_readInto_31 : decode cX6_readInto 31 = .ok (.getfield 15, 3) := by decide +kernel
theorem dX6_readInto_34 : decode cX6_readInto 34 = .ok (.if_icmp .lt 5, 3) := by decide +kernel
theorem dX6_readInto_37 : decode cX6_readInto 37 = .ok (.iconst (-1), 1) := by decide +kernel
theorem dX6_readInto_38 : decode cX6_readInto 38 = .ok (.ireturn, 1) := by decide +kernel
theorem dX6_readInto_39 : decode cX6_readInto 39 = .ok (.aload_n 0, 1) := by decide +kernel
theorem dX6_readInto_40 : decode cX6_readInto 40 = .ok (.aload_n 1, 1) := by decide +kernel
theorem dX6_readInto_41 : decode cX6_readInto 41 = .ok (.invokevirtual 37, 3) := by decide +kernel
theorem dX6_readInto_44 : decode cX6_readInto 44 = .ok (.istore_n 3, 1) := by decide +kernel
theorem dX6_readInto_45 : decode cX6_readInto 45 = .ok (.iload_n 3, 1) := by decide +kernel
theorem dX6_readInto_46 : decode cX6_readInto 46 = .ok (.iconst (-1), 1) := by decide +kernel
theorem dX6_readInto_47 : decode cX6_readInto 47 = .ok (.if_icmp .eq 5, 3) := by decide +kernel
theorem dX6_readInto_50 : decode cX6_readInto 50 = .ok (.iload_n 3, 1) := by decide +kernel
theorem dX6_readInto_51 : decode cX6_readInto 51 = .ok (.ireturn, 1) := by decide +kernel
theorem dX6_readInto_52 : decode cX6_readInto 52 = .ok (.aload_n 0, 1) := by decide +kernel
theorem dX6_readInto_53 : decode cX6_readInto 53 = .ok (.dup, 1) := by decide +kernel
theorem dX6_readInto_54 : decode cX6_readInto 54 = .ok (.getfield 31, 3) := by decide +kernel
theorem dX6_readInto_57 : decode cX6_readInto 57 = .ok (.iconst 1, 1) := by decide +kernel
theorem dX6_readInto_58 : decode cX6_readInto 58 = .ok (.iadd, 1) := by decide +kernel
theorem dX6_readInto_59 : decode cX6_readInto 59 = .ok (.putfield 31, 3) := by decide +kernel
theorem dX6_readInto_62 : decode cX6_readInto 62 = .ok (.iinc 2 1, 3) := by decide +kernel
theorem dX6_readInto_65 : decode cX6_readInto 65 = .ok (.goto (-49), 3) := by decide +kernel
theorem dX6_readInto_68 : decode cX6_readInto 68 = .ok (.iconst (-1), 1) := by decide +kernel
theorem dX6_readInto_69 : decode cX6_readInto 69 = .ok (.ireturn, 1) := by decide +kernel
set_option maxRecDepth 20000 in
theorem ggX6_readItem_X6_letterHere : GoodIn wsX6_readItem wsX6_letterHere := goodIn_r _ [6, 1, 7, 8, 62, 63, 64, 65] (by decide +kernel) (by decide +kernel)
set_option maxRecDepth 20000 in
theorem gX6_readItem_X6_letterHere : GoodIn wsX6_readItem (wsV RX6 41 RX6 yX6_letterHere wsX6_letterHere) := goodIn_app (goodIn_of _ (by decide +kernel)) ggX6_readItem_X6_letterHere
set_option maxRecDepth 20000 in
theorem ggX6_readItem_X6_canBegin : GoodIn wsX6_readItem wsX6_canBegin := goodIn_r _ [11, 12, 13, 14, 15, 16, 17, 66, 67, 68, 69] (by decide +kernel) (by decide +kernel)
set_option maxRecDepth 20000 in
theorem gX6_readItem_X6_canBegin : GoodIn wsX6_readItem (va_wsS RX6 45 yX6_canBegin wsX6_canBegin) := goodIn_app (goodIn_of _ (by decide +kernel)) ggX6_readItem_X6_canBegin
set_option maxRecDepth 20000 in
theorem ggX6_readItem_X6_skipBlanks : GoodIn wsX6_readItem wsX6_skipBlanks := goodIn_r _ [21, 1, 7, 2, 3, 4, 5, 6, 8, 62, 63, 64, 65] (by decide +kernel) (by decide +kernel)
set_option maxRecDepth 20000 in
theorem gX6_readItem_X6_skipBlanks : GoodIn wsX6_readItem (wsV RX6 34 RX6 yX6_skipBlanks wsX6_skipBlanks) := goodIn_app (goodIn_of _ (by decide +kernel)) ggX6_readItem_X6_skipBlanks
set_option maxRecDepth 20000 in
theorem ggX6_readItem_X6_readNumber : GoodIn wsX6_readItem wsX6_readNumber := goodIn_r _ [25, 1, 7, 26, 27, 28, 29, 2, 3, 4, 5, 6, 8, 30, 31, 32, 33, 34, 35, 36, 62, 63, 64, 65] (by decide +kernel) (by decide +kernel)
set_option maxRecDepth 20000 in
theorem gX6_readItem_X6_readNumber : GoodIn wsX6_readItem (wsV RX6 49 RX6 yX6_readNumber wsX6_readNumber) := goodIn_app (goodIn_of _ (by decide +kernel)) ggX6_readItem_X6_readNumber
set_option maxRecDepth 20000 in
theorem ggX6_readItem_X6_canStand : GoodIn wsX6_readItem wsX6_canStand := goodIn_r _ [39, 34, 35, 36, 40, 41, 42, 15, 43, 44, 45, 46, 47, 17, 48, 49, 28, 50, 51, 52, 66, 67, 68, 69] (by decide +kernel) (by decide +kernel)
set_option maxRecDepth 20000 in
theorem gX6_readItem_X6_canStand : GoodIn wsX6_readItem (va_wsS RX6 52 yX6_canStand wsX6_canStand) := goodIn_app (goodIn_of _ (by decide +kernel)) ggX6_readItem_X6_canStand
set_option maxRecDepth 20000 in
theorem ggX6_readItem_X6_tell : GoodIn wsX6_readItem wsX6_tell := goodIn_r _ [55, 56, 57, 58, 15, 59, 60, 17, 61, 13, 14, 16, 66, 67, 68, 69] (by decide +kernel) (by decide +kernel)
set_option maxRecDepth 20000 in
theorem gX6_readItem_X6_tell : GoodIn wsX6_readItem (va_wsS RX6 56 yX6_tell wsX6_tell) := goodIn_app (goodIn_of _ (by decide +kernel)) ggX6_readItem_X6_tell
theorem dX6_readItem_0 : decode cX6_readItem 0 = .ok (.aload_n 0, 1) := by decide +kernel
theorem dX6_readItem_1 : decode cX6_readItem 1 = .ok (.invokevirtual 41, 3) := by decide +kernel
theorem dX6_readItem_4 : decode cX6_readItem 4 = .ok (.istore_n 2, 1) := by decide +kernel
theorem dX6_readItem_5 : decode cX6_readItem 5 = .ok (.iload_n 2, 1) := by decide +kernel
theorem dX6_readItem_6 : decode cX6_readItem 6 = .ok (.aload_n 1, 1) := by decide +kernel
theorem dX6_readItem_7 : decode cX6_readItem 7 = .ok (.invokestatic 45, 3) := by decide +kernel
theorem dX6_readItem_10 : decode cX6_readItem 10 = .ok (.ifCond .ne 8, 3) := by decide +kernel
theorem dX6_readItem_13 : decode cX6_readItem 13 = .ok (.aload_n 0, 1) := by decide +kernel
theorem dX6_readItem_14 : decode cX6_readItem 14 = .ok (.getfield 28, 3) := by decide +kernel
theorem dX6_readItem_17 : decode cX6_readItem 17 = .ok (.ireturn, 1) := by decide +kernel
theorem dX6_readItem_18 : decode cX6_readItem 18 = .ok (.aload_n 0, 1) := by decide +kernel
theorem dX6_readItem_19 : decode cX6_readItem 19 = .ok (.dup, 1) := by decide +kernel
theorem dX6_readItem_20 : decode cX6_readItem 20 = .ok (.getfield 28, 3) := by decide +kernel
theorem dX6_readItem_23 : decode cX6_readItem 23 = .ok (.iconst 1, 1) := by decide +kernel
theorem dX6_readItem_24 : decode cX6_readItem 24 = .ok (.iadd, 1) := by decide +kernel
theorem dX6_readItem_25 : decode cX6_readItem 25 = .ok (.putfield 28, 3) := by decide +kernel
theorem dX6_readItem_28 : decode cX6_readItem 28 = .ok (.aload_n 0, 1) := by decide +kernel
theorem dX6_readItem_29 : decode cX6_readItem 29 = .ok (.invokevirtual 34, 3) := by decide +kernel
theorem dX6_readItem_32 : decode cX6_readItem 32 = .ok (.aload_n 0, 1) := by decide +kernel
theorem dX6_readItem_33 : decode cX6_readItem 33 = .ok (.getfield 28, 3) := by decide +kernel
theorem dX6_readItem_36 : decode cX6_readItem 36 = .ok (.istore_n 3, 1) := by decide +kernel
theorem dX6_readItem_37 : decode cX6_readItem 37 = .ok (.aload_n 0, 1) := by decide +kernel
theorem dX6_readItem_38 : decode cX6_readItem 38 = .ok (.invokevirtual 49, 3) := by decide +kernel
theorem dX6_readItem_41 : decode cX6_readItem 41 = .ok (.istore 4, 2) := by decide +kernel
theorem dX6_readItem_43 : decode cX6_readItem 43 = .ok (.iload_n 2, 1) := by decide +kernel
theorem dX6_readItem_44 : decode cX6_readItem 44 = .ok (.iload 4, 2) := by decide +kernel
theorem dX6_readItem_46 : decode cX6_readItem 46 = .ok (.aload_n 1, 1) := by decide +kernel
theorem dX6_readItem_47 : decode cX6_readItem 47 = .ok (.invokestatic 52, 3) := by decide +kernel
theorem dX6_readItem_50 : decode cX6_readItem 50 = .ok (.ifCond .ne 5, 3) := by decide +kernel
theorem dX6_readItem_53 : decode cX6_readItem 53 = .ok (.iload_n 3, 1) := by decide +kernel
theorem dX6_readItem_54 : decode cX6_readItem 54 = .ok (.ireturn, 1) := by decide +kernel
theorem dX6_readItem_55 : decode cX6_readItem 55 = .ok (.aload_n 0, 1) := by decide +kernel
theorem dX6_readItem_56 : decode cX6_readItem 56 = .ok (.invokevirtual 34, 3) := by decide +kernel
theorem dX6_readItem_59 : decode cX6_readItem 59 = .ok (.aload_n 0, 1) := by decide +kernel
theorem dX6_readItem_60 : decode cX6_readItem 60 = .ok (.invokevirtual 41, 3) := by decide +kernel
theorem dX6_readItem_63 : decode cX6_readItem 63 = .ok (.bipush 59, 2) := by decide +kernel
theorem dX6_readItem_65 : decode cX6_readItem 65 = .ok (.if_icmp .eq 8, 3) := by decide +kernel
theorem dX6_readItem_68 : decode cX6_readItem 68 = .ok (.aload_n 0, 1) := by decide +kernel
theorem dX6_readItem_69 : decode cX6_readItem 69 = .ok (.getfield 28, 3) := by decide +kernel
theorem dX6_readItem_72 : decode cX6_readItem 72 = .ok (.ireturn, 1) := by decide +kernel
theorem dX6_readItem_73 : decode cX6_readItem 73 = .ok (.aload_n 0, 1) := by decide +kernel
theorem dX6_readItem_74 : decode cX6_readItem 74 = .ok (.dup, 1) := by decide +kernel
theorem dX6_readItem_75 : decode cX6_readItem 75 = .ok (.getfield 28, 3) := by decide +kernel
theorem dX6_readItem_78 : decode cX6_readItem 78 = .ok (.iconst 1, 1) := by decide +kernel
theorem dX6_readItem_79 : decode cX6_readItem 79 = .ok (.iadd, 1) := by decide +kernel
theorem dX6_readItem_80 : decode cX6_readItem 80 = .ok (.putfield 28, 3) := by decide +kernel
theorem dX6_readItem_83 : decode cX6_readItem 83 = .ok (.iload_n 2, 1) := by decide +kernel
theorem dX6_readItem_84 : decode cX6_readItem 84 = .ok (.iload 4, 2) := by decide +kernel
theorem dX6_readItem_86 : decode cX6_readItem 86 = .ok (.aload_n 1, 1) := by decide +kernel
theorem dX6_readItem_87 : decode cX6_readItem 87 = .ok (.invokestatic 56, 3) := by decide +kernel
theorem dX6_readItem_90 : decode cX6_readItem 90 = .ok (.iconst (-1), 1) := by decide +kernel
theorem dX6_readItem_91 : decode cX6_readItem 91 = .ok (.ireturn, 1) := by decide +kernel
set_option maxRecDepth 20000 in
theorem ggX6_canBegin_X5_isFull : GoodIn wsX6_canBegin wsX5_isFull := goodIn_r _ [5, 6, 7, 8, 9, 10] (by decide +kernel) (by decide +kernel)
set_option maxRecDepth 20000 in
theorem gX6_canBegin_X5_isFull : GoodIn wsX6_canBegin (wsV RX6 60 RX5 yX5_isFull wsX5_isFull) := goodIn_app (goodIn_of _ (by decide +kernel)) ggX6_canBegin_X5_isFull
theorem dX6_canBegin_0 : decode cX6_canBegin 0 = .ok (.iload_n 0, 1) := by decide +kernel
theorem dX6_canBegin_1 : decode cX6_canBegin 1 = .ok (.bipush 107, 2) := by decide +kernel
theorem dX6_canBegin_3 : decode cX6_canBegin 3 = .ok (.if_icmp .ne 18, 3) := by decide +kernel
theorem dX6_canBegin_6 : decode cX6_canBegin 6 = .ok (.aload_n 1, 1) := by decide +kernel
theorem dX6_canBegin_7 : decode cX6_canBegin 7 = .ok (.invokevirtual 60, 3) := by decide +kernel
theorem dX6_canBegin_10 : decode cX6_canBegin 10 = .ok (.ifCond .ne 7, 3) := by decide +kernel
theorem dX6_canBegin_13 : decode cX6_canBegin 13 = .ok (.iconst 1, 1) := by decide +kernel
theorem dX6_canBegin_14 : decode cX6_canBegin 14 = .ok (.goto 24, 3) := by decide +kernel
theorem dX6_canBegin_17 : decode cX6_canBegin 17 = .ok (.iconst 0, 1) := by decide +kernel
theorem dX6_canBegin_18 : decode cX6_canBegin 18 = .ok (.goto 20, 3) := by decide +kernel
theorem dX6_canBegin_21 : decode cX6_canBegin 21 = .ok (.iload_n 0, 1) := by decide +kernel
theorem dX6_canBegin_22 : decode cX6_canBegin 22 = .ok (.bipush 102, 2) := by decide +kernel
theorem dX6_canBegin_24 : decode cX6_canBegin 24 = .ok (.if_icmp .eq 9, 3) := by decide +kernel
theorem dX6_canBegin_27 : decode cX6_canBegin 27 = .ok (.iload_n 0, 1) := by decide +kernel
theorem dX6_canBegin_28 : decode cX6_canBegin 28 = .ok (.bipush 120, 2) := by decide +kernel
theorem dX6_canBegin_30 : decode cX6_canBegin 30 = .ok (.if_icmp .ne 7, 3) := by decide +kernel
theorem dX6_canBegin_33 : decode cX6_canBegin 33 = .ok (.iconst 1, 1) := by decide +kernel
theorem dX6_canBegin_34 : decode cX6_canBegin 34 = .ok (.goto 4, 3) := by decide +kernel
theorem dX6_canBegin_37 : decode cX6_canBegin 37 = .ok (.iconst 0, 1) := by decide +kernel
theorem dX6_canBegin_38 : decode cX6_canBegin 38 = .ok (.ireturn, 1) := by decide +kernel
set_option maxRecDepth 20000 in
theorem ggX6_canStand_X7_isWithin : GoodIn wsX6_canStand wsX7_isWithin := goodIn_r _ [3] (by decide +kernel) (by decide +kernel)
set_option maxRecDepth 20000 in
theorem gX6_canStand_X7_isWithin_n61 : GoodIn wsX6_canStand (wsX7_isWithin) := ggX6_canStand_X7_isWithin
set_option maxRecDepth 20000 in
theorem ggX6_canStand_X5_hasJoint : GoodIn wsX6_canStand wsX5_hasJoint := goodIn_r _ [8, 9, 10, 11, 7, 12, 13, 14, 15, 16, 17, 20, 21, 22, 23] (by decide +kernel) (by decide +kernel)
set_option maxRecDepth 20000 in
theorem gX6_canStand_X5_hasJoint : GoodIn wsX6_canStand (wsV RX6 65 RX5 yX5_hasJoint wsX5_hasJoint) := goodIn_app (goodIn_of _ (by decide +kernel)) ggX6_canStand_X5_hasJoint
set_option maxRecDepth 20000 in
theorem ggX6_canStand_X7_hasBit : GoodIn wsX6_canStand wsX7_hasBit := goodIn_r _ [19] (by decide +kernel) (by decide +kernel)
set_option maxRecDepth 20000 in
theorem gX6_canStand_X7_hasBit_n75 : GoodIn wsX6_canStand (wsX7_hasBit) := ggX6_canStand_X7_hasBit
theorem dX6_canStand_0 : decode cX6_canStand 0 = .ok (.iload_n 0, 1) := by decide +kernel
theorem dX6_canStand_1 : decode cX6_canStand 1 = .ok (.bipush 107, 2) := by decide +kernel
theorem dX6_canStand_3 : decode cX6_canStand 3 = .ok (.if_icmp .ne 11, 3) := by decide +kernel
theorem dX6_canStand_6 : decode cX6_canStand 6 = .ok (.iload_n 1, 1) := by decide +kernel
theorem dX6_canStand_7 : decode cX6_canStand 7 = .ok (.iconst 1, 1) := by decide +kernel
theorem dX6_canStand_8 : decode cX6_canStand 8 = .ok (.bipush 20, 2) := by decide +kernel
theorem dX6_canStand_10 : decode cX6_canStand 10 = .ok (.invokestatic 61, 3) := by decide +kernel
theorem dX6_canStand_13 : decode cX6_canStand 13 = .ok (.ireturn, 1) := by decide +kernel
theorem dX6_canStand_14 : decode cX6_canStand 14 = .ok (.aload_n 2, 1) := by decide +kernel
theorem dX6_canStand_15 : decode cX6_canStand 15 = .ok (.iload_n 1, 1) := by decide +kernel
theorem dX6_canStand_16 : decode cX6_canStand 16 = .ok (.invokevirtual 65, 3) := by decide +kernel
theorem dX6_canStand_19 : decode cX6_canStand 19 = .ok (.ifCond .eq 23, 3) := by decide +kernel
theorem dX6_canStand_22 : decode cX6_canStand 22 = .ok (.aload_n 2, 1) := by decide +kernel
theorem dX6_canStand_23 : decode cX6_canStand 23 = .ok (.getfield 69, 3) := by decide +kernel
theorem dX6_canStand_26 : decode cX6_canStand 26 = .ok (.aload_n 2, 1) := by decide +kernel
theorem dX6_canStand_27 : decode cX6_canStand 27 = .ok (.getfield 72, 3) := by decide +kernel
theorem dX6_canStand_30 : decode cX6_canStand 30 = .ok (.ior, 1) := by decide +kernel
theorem dX6_canStand_31 : decode cX6_canStand 31 = .ok (.iload_n 1, 1) := by decide +kernel
theorem dX6_canStand_32 : decode cX6_canStand 32 = .ok (.invokestatic 75, 3) := by decide +kernel
theorem dX6_canStand_35 : decode cX6_canStand 35 = .ok (.ifCond .ne 7, 3) := by decide +kernel
theorem dX6_canStand_38 : decode cX6_canStand 38 = .ok (.iconst 1, 1) := by decide +kernel
theorem dX6_canStand_39 : decode cX6_canStand 39 = .ok (.goto 4, 3) := by decide +kernel
theorem dX6_canStand_42 : decode cX6_canStand 42 = .ok (.iconst 0, 1) := by decide +kernel
theorem dX6_canStand_43 : decode cX6_canStand 43 = .ok (.ireturn, 1) := by decide +kernel
set_option maxRecDepth 20000 in
theorem ggX6_tell_X5_addLink : GoodIn wsX6_tell wsX5_addLink := goodIn_r _ [5, 6, 7, 8, 9, 10, 4, 11, 12, 13, 14, 15] (by decide +kernel) (by decide +kernel)
set_option maxRecDepth 20000 in
theorem gX6_tell_X5_addLink : GoodIn wsX6_tell (wsV RX6 79 RX5 yX5_addLink wsX5_addLink) := goodIn_app (goodIn_of _ (by decide +kernel)) ggX6_tell_X5_addLink
theorem dX6_tell_0 : decode cX6_tell 0 = .ok (.iload_n 0, 1) := by decide +kernel
theorem dX6_tell_1 : decode cX6_tell 1 = .ok (.bipush 107, 2) := by decide +kernel
theorem dX6_tell_3 : decode cX6_tell 3 = .ok (.if_icmp .ne 11, 3) := by decide +kernel
theorem dX6_tell_6 : decode cX6_tell 6 = .ok (.aload_n 2, 1) := by decide +kernel
theorem dX6_tell_7 : decode cX6_tell 7 = .ok (.iload_n 1, 1) := by decide +kernel
theorem dX6_tell_8 : decode cX6_tell 8 = .ok (.invokevirtual 79, 3) := by decide +kernel
theorem dX6_tell_11 : decode cX6_tell 11 = .ok (.goto 36, 3) := by decide +kernel
theorem dX6_tell_14 : decode cX6_tell 14 = .ok (.iload_n 0, 1) := by decide +kernel
theorem dX6_tell_15 : decode cX6_tell 15 = .ok (.bipush 102, 2) := by decide +kernel
theorem dX6_tell_17 : decode cX6_tell 17 = .ok (.if_icmp .ne 18, 3) := by decide +kernel
theorem dX6_tell_20 : decode cX6_tell 20 = .ok (.aload_n 2, 1) := by decide +kernel
theorem dX6_tell_21 : decode cX6_tell 21 = .ok (.dup, 1) := by decide +kernel
theorem dX6_tell_22 : decode cX6_tell 22 = .ok (.getfield 69, 3) := by decide +kernel
theorem dX6_tell_25 : decode cX6_tell 25 = .ok (.iconst 1, 1) := by decide +kernel
theorem dX6_tell_26 : decode cX6_tell 26 = .ok (.iload_n 1, 1) := by decide +kernel
theorem dX6_tell_27 : decode cX6_tell 27 = .ok (.ishl, 1) := by decide +kernel
theorem dX6_tell_28 : decode cX6_tell 28 = .ok (.ior, 1) := by decide +kernel
theorem dX6_tell_29 : decode cX6_tell 29 = .ok (.putfield 69, 3) := by decide +kernel
theorem dX6_tell_32 : decode cX6_tell 32 = .ok (.goto 15, 3) := by decide +kernel
theorem dX6_tell_35 : decode cX6_tell 35 = .ok (.aload_n 2, 1) := by decide +kernel
theorem dX6_tell_36 : decode cX6_tell 36 = .ok (.dup, 1) := by decide +kernel
theorem dX6_tell_37 : decode cX6_tell 37 = .ok (.getfield 72, 3) := by decide +kernel
theorem dX6_tell_40 : decode cX6_tell 40 = .ok (.iconst 1, 1) := by decide +kernel
theorem dX6_tell_41 : decode cX6_tell 41 = .ok (.iload_n 1, 1) := by decide +kernel
theorem dX6_tell_42 : decode cX6_tell 42 = .ok (.ishl, 1) := by decide +kernel
theorem dX6_tell_43 : decode cX6_tell 43 = .ok (.ior, 1) := by decide +kernel
theorem dX6_tell_44 : decode cX6_tell 44 = .ok (.putfield 72, 3) := by decide +kernel
theorem dX6_tell_47 : decode cX6_tell 47 = .ok (.return_, 1) := by decide +kernel
theorem dX6_letterHere_0 : decode cX6_letterHere 0 = .ok (.aload_n 0, 1) := by decide +kernel
theorem dX6_letterHere_1 : decode cX6_letterHere 1 = .ok (.getfield 28, 3) := by decide +kernel
theorem dX6_letterHere_4 : decode cX6_letterHere 4 = .ok (.ifCond .lt 26, 3) := by decide +kernel
theorem dX6_letterHere_7 : decode cX6_letterHere 7 = .ok (.aload_n 0, 1) := by decide +kernel
theorem dX6_letterHere_8 : decode cX6_letterHere 8 = .ok (.getfield 28, 3) := by decide +kernel
theorem dX6_letterHere_11 : decode cX6_letterHere 11 = .ok (.aload_n 0, 1) := by decide +kernel
theorem dX6_letterHere_12 : decode cX6_letterHere 12 = .ok (.getfield 15, 3) := by decide +kernel
theorem dX6_letterHere_15 : decode cX6_letterHere 15 = .ok (.if_icmp .ge 15, 3) := by decide +kernel
theorem dX6_letterHere_18 : decode cX6_letterHere 18 = .ok (.aload_n 0, 1) := by decide +kernel
theorem dX6_letterHere_19 : decode cX6_letterHere 19 = .ok (.getfield 9, 3) := by decide +kernel
theorem dX6_letterHere_22 : decode cX6_letterHere 22 = .ok (.aload_n 0, 1) := by decide +kernel
theorem dX6_letterHere_23 : decode cX6_letterHere 23 = .ok (.getfield 28, 3) := by decide +kernel
theorem dX6_letterHere_26 : decode cX6_letterHere 26 = .ok (.iaload, 1) := by decide +kernel
theorem dX6_letterHere_27 : decode cX6_letterHere 27 = .ok (.goto 5, 3) := by decide +kernel
theorem dX6_letterHere_30 : decode cX6_letterHere 30 = .ok (.bipush (-9), 2) := by decide +kernel
theorem dX6_letterHere_32 : decode cX6_letterHere 32 = .ok (.ireturn, 1) := by decide +kernel
set_option maxRecDepth 20000 in
theorem ggX6_skipBlanks_X6_letterHere : GoodIn wsX6_skipBlanks wsX6_letterHere := goodIn_r _ [7, 1, 2, 8, 9, 10, 11, 12] (by decide +kernel) (by decide +kernel)
set_option maxRecDepth 20000 in
theorem gX6_skipBlanks_X6_letterHere : GoodIn wsX6_skipBlanks (wsV RX6 41 RX6 yX6_letterHere wsX6_letterHere) := goodIn_app (goodIn_of _ (by decide +kernel)) ggX6_skipBlanks_X6_letterHere
theorem dX6_skipBlanks_0 : decode cX6_skipBlanks 0 = .ok (.aload_n 0, 1) := by decide +kernel
theorem dX6_skipBlanks_1 : decode cX6_skipBlanks 1 = .ok (.getfield 28, 3) := by decide +kernel
theorem dX6_skipBlanks_4 : decode cX6_skipBlanks 4 = .ok (.aload_n 0, 1) := by decide +kernel
theorem dX6_skipBlanks_5 : decode cX6_skipBlanks 5 = .ok (.getfield 15, 3) := by decide +kernel
theorem dX6_skipBlanks_8 : decode cX6_skipBlanks 8 = .ok (.if_icmp .ge 25, 3) := by decide +kernel
theorem dX6_skipBlanks_11 : decode cX6_skipBlanks 11 = .ok (.aload_n 0, 1) := by decide +kernel
theorem dX6_skipBlanks_12 : decode cX6_skipBlanks 12 = .ok (.invokevirtual 41, 3) := by decide +kernel
theorem dX6_skipBlanks_15 : decode cX6_skipBlanks 15 = .ok (.bipush 32, 2) := by decide +kernel
theorem dX6_skipBlanks_17 : decode cX6_skipBlanks 17 = .ok (.if_icmp .ne 16, 3) := by decide +kernel
theorem dX6_skipBlanks_20 : decode cX6_skipBlanks 20 = .ok (.aload_n 0, 1) := by decide +kernel
theorem dX6_skipBlanks_21 : decode cX6_skipBlanks 21 = .ok (.dup, 1) := by decide +kernel
theorem dX6_skipBlanks_22 : decode cX6_skipBlanks 22 = .ok (.getfield 28, 3) := by decide +kernel
theorem dX6_skipBlanks_25 : decode cX6_skipBlanks 25 = .ok (.iconst 1, 1) := by decide +kernel
theorem dX6_skipBlanks_26 : decode cX6_skipBlanks 26 = .ok (.iadd, 1) := by decide +kernel
theorem dX6_skipBlanks_27 : decode cX6_skipBlanks 27 = .ok (.putfield 28, 3) := by decide +kernel
theorem dX6_skipBlanks_30 : decode cX6_skipBlanks 30 = .ok (.goto (-30), 3) := by decide +kernel
theorem dX6_skipBlanks_33 : decode cX6_skipBlanks 33 = .ok (.return_, 1) := by decide +kernel
set_option maxRecDepth 20000 in
theorem ggX6_isDigitHere_X6_letterHere : GoodIn wsX6_isDigitHere wsX6_letterHere := goodIn_r _ [5, 6, 7, 8, 12, 13, 14, 15] (by decide +kernel) (by decide +kernel)
set_option maxRecDepth 20000 in
theorem gX6_isDigitHere_X6_letterHere : GoodIn wsX6_isDigitHere (wsV RX6 41 RX6 yX6_letterHere wsX6_letterHere) := goodIn_app (goodIn_of _ (by decide +kernel)) ggX6_isDigitHere_X6_letterHere
set_option maxRecDepth 20000 in
theorem ggX6_isDigitHere_X7_isWithin : GoodIn wsX6_isDigitHere wsX7_isWithin := goodIn_r _ [11] (by decide +kernel) (by decide +kernel)
set_option maxRecDepth 20000 in
theorem gX6_isDigitHere_X7_isWithin_n61 : GoodIn wsX6_isDigitHere (wsX7_isWithin) := ggX6_isDigitHere_X7_isWithin
theorem dX6_isDigitHere_0 : decode cX6_isDigitHere 0 = .ok (.aload_n 0, 1) := by decide +kernel
theorem dX6_isDigitHere_1 : decode cX6_isDigitHere 1 = .ok (.invokevirtual 41, 3) := by decide +kernel
theorem dX6_isDigitHere_4 : decode cX6_isDigitHere 4 = .ok (.bipush 48, 2) := by decide +kernel
theorem dX6_isDigitHere_6 : decode cX6_isDigitHere 6 = .ok (.bipush 57, 2) := by decide +kernel
theorem dX6_isDigitHere_8 : decode cX6_isDigitHere 8 = .ok (.invokestatic 61, 3) := by decide +kernel
theorem dX6_isDigitHere_11 : decode cX6_isDigitHere 11 = .ok (.ireturn, 1) := by decide +kernel
set_option maxRecDepth 20000 in
theorem ggX6_readNumber_X6_letterHere : GoodIn wsX6_readNumber wsX6_letterHere := goodIn_r _ [11, 1, 2, 12, 20, 21, 22, 23] (by decide +kernel) (by decide +kernel)
set_option maxRecDepth 20000 in
theorem gX6_readNumber_X6_letterHere : GoodIn wsX6_readNumber (wsV RX6 41 RX6 yX6_letterHere wsX6_letterHere) := goodIn_app (goodIn_of _ (by decide +kernel)) ggX6_readNumber_X6_letterHere
set_option maxRecDepth 20000 in
theorem ggX6_readNumber_X6_isDigitHere : GoodIn wsX6_readNumber wsX6_isDigitHere := goodIn_r _ [16, 7, 8, 9, 10, 11, 1, 2, 12, 17, 18, 19, 20, 21, 22, 23] (by decide +kernel) (by decide +kernel)
set_option maxRecDepth 20000 in
theorem gX6_readNumber_X6_isDigitHere : GoodIn wsX6_readNumber (wsV RX6 83 RX6 yX6_isDigitHere wsX6_isDigitHere) := goodIn_app (goodIn_of _ (by decide +kernel)) ggX6_readNumber_X6_isDigitHere
theorem dX6_readNumber_0 : decode cX6_readNumber 0 = .ok (.aload_n 0, 1) := by decide +kernel
theorem dX6_readNumber_1 : decode cX6_readNumber 1 = .ok (.invokevirtual 41, 3) := by decide +kernel
theorem dX6_readNumber_4 : decode cX6_readNumber 4 = .ok (.istore_n 1, 1) := by decide +kernel
theorem dX6_readNumber_5 : decode cX6_readNumber 5 = .ok (.iconst 0, 1) := by decide +kernel
theorem dX6_readNumber_6 : decode cX6_readNumber 6 = .ok (.istore_n 2, 1) := by decide +kernel
theorem dX6_readNumber_7 : decode cX6_readNumber 7 = .ok (.iconst 0, 1) := by decide +kernel
theorem dX6_readNumber_8 : decode cX6_readNumber 8 = .ok (.istore_n 3, 1) := by decide +kernel
theorem dX6_readNumber_9 : decode cX6_readNumber 9 = .ok (.aload_n 0, 1) := by decide +kernel
theorem dX6_readNumber_10 : decode cX6_readNumber 10 = .ok (.getfield 28, 3) := by decide +kernel
theorem dX6_readNumber_13 : decode cX6_readNumber 13 = .ok (.aload_n 0, 1) := by decide +kernel
theorem dX6_readNumber_14 : decode cX6_readNumber 14 = .ok (.getfield 15, 3) := by decide +kernel
theorem dX6_readNumber_17 : decode cX6_readNumber 17 = .ok (.if_icmp .ge 44, 3) := by decide +kernel
theorem dX6_readNumber_20 : decode cX6_readNumber 20 = .ok (.aload_n 0, 1) := by decide +kernel
theorem dX6_readNumber_21 : decode cX6_readNumber 21 = .ok (.invokevirtual 83, 3) := by decide +kernel
theorem dX6_readNumber_24 : decode cX6_readNumber 24 = .ok (.ifCond .eq 37, 3) := by decide +kernel
theorem dX6_readNumber_27 : decode cX6_readNumber 27 = .ok (.iload_n 3, 1) := by decide +kernel
theorem dX6_readNumber_28 : decode cX6_readNumber 28 = .ok (.bipush 10, 2) := by decide +kernel
theorem dX6_readNumber_30 : decode cX6_readNumber 30 = .ok (.imul, 1) := by decide +kernel
theorem dX6_readNumber_31 : decode cX6_readNumber 31 = .ok (.aload_n 0, 1) := by decide +kernel
theorem dX6_readNumber_32 : decode cX6_readNumber 32 = .ok (.invokevirtual 41, 3) := by decide +kernel
theorem dX6_readNumber_35 : decode cX6_readNumber 35 = .ok (.iadd, 1) := by decide +kernel
theorem dX6_readNumber_36 : decode cX6_readNumber 36 = .ok (.bipush 48, 2) := by decide +kernel
theorem dX6_readNumber_38 : decode cX6_readNumber 38 = .ok (.isub, 1) := by decide +kernel
theorem dX6_readNumber_39 : decode cX6_readNumber 39 = .ok (.bipush 100, 2) := by decide +kernel
theorem dX6_readNumber_41 : decode cX6_readNumber 41 = .ok (.invokestatic 86, 3) := by decide +kernel
theorem dX6_readNumber_44 : decode cX6_readNumber 44 = .ok (.istore_n 3, 1) := by decide +kernel
theorem dX6_readNumber_45 : decode cX6_readNumber 45 = .ok (.iinc 2 1, 3) := by decide +kernel
theorem dX6_readNumber_48 : decode cX6_readNumber 48 = .ok (.aload_n 0, 1) := by decide +kernel
theorem dX6_readNumber_49 : decode cX6_readNumber 49 = .ok (.dup, 1) := by decide +kernel
theorem dX6_readNumber_50 : decode cX6_readNumber 50 = .ok (.getfield 28, 3) := by decide +kernel
theorem dX6_readNumber_53 : decode cX6_readNumber 53 = .ok (.iconst 1, 1) := by decide +kernel
theorem dX6_readNumber_54 : decode cX6_readNumber 54 = .ok (.iadd, 1) := by decide +kernel
theorem dX6_readNumber_55 : decode cX6_readNumber 55 = .ok (.putfield 28, 3) := by decide +kernel
theorem dX6_readNumber_58 : decode cX6_readNumber 58 = .ok (.goto (-49), 3) := by decide +kernel
theorem dX6_readNumber_61 : decode cX6_readNumber 61 = .ok (.iload_n 2, 1) := by decide +kernel
theorem dX6_readNumber_62 : decode cX6_readNumber 62 = .ok (.ifCond .le 24, 3) := by decide +kernel
theorem dX6_readNumber_65 : decode cX6_readNumber 65 = .ok (.iload_n 3, 1) := by decide +kernel
theorem dX6_readNumber_66 : decode cX6_readNumber 66 = .ok (.bipush 99, 2) := by decide +kernel
theorem dX6_readNumber_68 : decode cX6_readNumber 68 = .ok (.if_icmp .gt 18, 3) := by decide +kernel
theorem dX6_readNumber_71 : decode cX6_readNumber 71 = .ok (.iload_n 1, 1) := by decide +kernel
theorem dX6_readNumber_72 : decode cX6_readNumber 72 = .ok (.bipush 48, 2) := by decide +kernel
theorem dX6_readNumber_74 : decode cX6_readNumber 74 = .ok (.if_icmp .ne 8, 3) := by decide +kernel
theorem dX6_readNumber_77 : decode cX6_readNumber 77 = .ok (.iload_n 2, 1) := by decide +kernel
theorem dX6_readNumber_78 : decode cX6_readNumber 78 = .ok (.iconst 1, 1) := by decide +kernel
theorem dX6_readNumber_79 : decode cX6_readNumber 79 = .ok (.if_icmp .ne 7, 3) := by decide +kernel
theorem dX6_readNumber_82 : decode cX6_readNumber 82 = .ok (.iconst 1, 1) := by decide +kernel
theorem dX6_readNumber_83 : decode cX6_readNumber 83 = .ok (.goto 4, 3) := by decide +kernel
theorem dX6_readNumber_86 : decode cX6_readNumber 86 = .ok (.iconst 0, 1) := by decide +kernel
theorem dX6_readNumber_87 : decode cX6_readNumber 87 = .ok (.istore 4, 2) := by decide +kernel
theorem dX6_readNumber_89 : decode cX6_readNumber 89 = .ok (.iload 4, 2) := by decide +kernel
theorem dX6_readNumber_91 : decode cX6_readNumber 91 = .ok (.ifCond .eq 7, 3) := by decide +kernel
theorem dX6_readNumber_94 : decode cX6_readNumber 94 = .ok (.iload_n 3, 1) := by decide +kernel
theorem dX6_readNumber_95 : decode cX6_readNumber 95 = .ok (.goto 5, 3) := by decide +kernel
theorem dX6_readNumber_98 : decode cX6_readNumber 98 = .ok (.bipush (-9), 2) := by decide +kernel
theorem dX6_readNumber_100 : decode cX6_readNumber 100 = .ok (.ireturn, 1) := by decide +kernel
set_option maxRecDepth 20000 in
theorem ggX7_init_X6_init : GoodIn wsX7_init wsX6_init := goodIn_r _ [37, 38, 2, 3, 39, 40, 73, 74, 75, 76] (by decide +kernel) (by decide +kernel)
set_option maxRecDepth 20000 in
theorem gX7_init_X6_init_n9 : GoodIn wsX7_init (wsX6_init) := ggX7_init_X6_init
set_option maxRecDepth 20000 in
theorem ggX7_init_X5_init : GoodIn wsX7_init wsX5_init := goodIn_r _ [42, 43, 2, 3, 39, 44, 87, 88, 89, 90] (by decide +kernel) (by decide +kernel)
set_option maxRecDepth 20000 in
theorem gX7_init_X5_init_n18 : GoodIn wsX7_init (wsX5_init) := ggX7_init_X5_init
set_option maxRecDepth 20000 in
theorem ggX7_init_X1_init : GoodIn wsX7_init wsX1_init := goodIn_r _ [47, 48, 2, 3, 49, 50, 9, 10, 41, 42, 43, 39, 44, 91, 92, 93, 87, 88, 89, 90] (by decide +kernel) (by decide +kernel)
set_option maxRecDepth 20000 in
theorem gX7_init_X1_init : GoodIn wsX7_init (wsX1_init) := ggX7_init_X1_init
set_option maxRecDepth 20000 in
theorem ggX7_init_X2_init : GoodIn wsX7_init wsX2_init := goodIn_r _ [52, 53, 2, 3, 39, 54, 94, 95, 96, 97] (by decide +kernel) (by decide +kernel)
set_option maxRecDepth 20000 in
theorem gX7_init_X2_init_n43 : GoodIn wsX7_init (wsX2_init) := ggX7_init_X2_init
set_option maxRecDepth 20000 in
theorem ggX7_init_X0_init : GoodIn wsX7_init wsX0_init := goodIn_r _ [56, 57, 2, 3, 58, 21, 22, 59, 14, 60, 51, 52, 53, 39, 54, 94, 95, 96, 97, 98, 99] (by decide +kernel) (by decide +kernel)
set_option maxRecDepth 20000 in
theorem gX7_init_X0_init_n50 : GoodIn wsX7_init (wsX0_init) := ggX7_init_X0_init
set_option maxRecDepth 20000 in
theorem ggX7_init_X4_init : GoodIn wsX7_init wsX4_init := goodIn_r _ [62, 63, 2, 3, 39, 64, 65, 14, 66, 67, 68, 21, 22, 69, 51, 52, 53, 54, 100, 101, 102, 103, 104, 105, 94, 95, 96, 97] (by decide +kernel) (by decide +kernel)
set_option maxRecDepth 20000 in
theorem gX7_init_X4_init_n57 : GoodIn wsX7_init (wsX4_init) := ggX7_init_X4_init
set_option maxRecDepth 20000 in
theorem ggX7_init_X3_init : GoodIn wsX7_init wsX3_init := goodIn_r _ [71, 72, 2, 3] (by decide +kernel) (by decide +kernel)
set_option maxRecDepth 20000 in
theorem gX7_init_X3_init_n64 : GoodIn wsX7_init (wsX3_init) := ggX7_init_X3_init
theorem dX7_init_0 : decode cX7_init 0 = .ok (.aload_n 0, 1) := by decide +kernel
theorem dX7_init_1 : decode cX7_init 1 = .ok (.invokespecial 1, 3) := by decide +kernel
theorem dX7_init_4 : decode cX7_init 4 = .ok (.aload_n 0, 1) := by decide +kernel
theorem dX7_init_5 : decode cX7_init 5 = .ok (.new 7, 3) := by decide +kernel
theorem dX7_init_8 : decode cX7_init 8 = .ok (.dup, 1) := by decide +kernel
theorem dX7_init_9 : decode cX7_init 9 = .ok (.invokespecial 9, 3) := by decide +kernel
theorem dX7_init_12 : decode cX7_init 12 = .ok (.putfield 10, 3) := by decide +kernel
theorem dX7_init_15 : decode cX7_init 15 = .ok (.aload_n 0, 1) := by decide +kernel
theorem dX7_init_16 : decode cX7_init 16 = .ok (.new 16, 3) := by decide +kernel
theorem dX7_init_19 : decode cX7_init 19 = .ok (.dup, 1) := by decide +kernel
theorem dX7_init_20 : decode cX7_init 20 = .ok (.invokespecial 18, 3) := by decide +kernel
theorem dX7_init_23 : decode cX7_init 23 = .ok (.putfield 19, 3) := by decide +kernel
theorem dX7_init_26 : decode cX7_init 26 = .ok (.aload_n 0, 1) := by decide +kernel
theorem dX7_init_27 : decode cX7_init 27 = .ok (.new 16, 3) := by decide +kernel
theorem dX7_init_30 : decode cX7_init 30 = .ok (.dup, 1) := by decide +kernel
theorem dX7_init_31 : decode cX7_init 31 = .ok (.invokespecial 18, 3) := by decide +kernel
theorem dX7_init_34 : decode cX7_init 34 = .ok (.putfield 23, 3) := by decide +kernel
theorem dX7_init_37 : decode cX7_init 37 = .ok (.aload_n 0, 1) := by decide +kernel
theorem dX7_init_38 : decode cX7_init 38 = .ok (.iconst 2, 1) := by decide +kernel
theorem dX7_init_39 : decode cX7_init 39 = .ok (.anewarray 16, 3) := by decide +kernel
theorem dX7_init_42 : decode cX7_init 42 = .ok (.dup, 1) := by decide +kernel
theorem dX7_init_43 : decode cX7_init 43 = .ok (.iconst 0, 1) := by decide +kernel
theorem dX7_init_44 : decode cX7_init 44 = .ok (.new 16, 3) := by decide +kernel
theorem dX7_init_47 : decode cX7_init 47 = .ok (.dup, 1) := by decide +kernel
theorem dX7_init_48 : decode cX7_init 48 = .ok (.invokespecial 18, 3) := by decide +kernel
theorem dX7_init_51 : decode cX7_init 51 = .ok (.aastore, 1) := by decide +kernel
theorem dX7_init_52 : decode cX7_init 52 = .ok (.dup, 1) := by decide +kernel
theorem dX7_init_53 : decode cX7_init 53 = .ok (.iconst 1, 1) := by decide +kernel
theorem dX7_init_54 : decode cX7_init 54 = .ok (.new 16, 3) := by decide +kernel
theorem dX7_init_57 : decode cX7_init 57 = .ok (.dup, 1) := by decide +kernel
theorem dX7_init_58 : decode cX7_init 58 = .ok (.invokespecial 18, 3) := by decide +kernel
theorem dX7_init_61 : decode cX7_init 61 = .ok (.aastore, 1) := by decide +kernel
theorem dX7_init_62 : decode cX7_init 62 = .ok (.putfield 26, 3) := by decide +kernel
theorem dX7_init_65 : decode cX7_init 65 = .ok (.aload_n 0, 1) := by decide +kernel
theorem dX7_init_66 : decode cX7_init 66 = .ok (.iconst 2, 1) := by decide +kernel
theorem dX7_init_67 : decode cX7_init 67 = .ok (.newarray .boolean, 2) := by decide +kernel
theorem dX7_init_69 : decode cX7_init 69 = .ok (.putfield 30, 3) := by decide +kernel
theorem dX7_init_72 : decode cX7_init 72 = .ok (.aload_n 0, 1) := by decide +kernel
theorem dX7_init_73 : decode cX7_init 73 = .ok (.new 34, 3) := by decide +kernel
theorem dX7_init_76 : decode cX7_init 76 = .ok (.dup, 1) := by decide +kernel
theorem dX7_init_77 : decode cX7_init 77 = .ok (.invokespecial 36, 3) := by decide +kernel
theorem dX7_init_80 : decode cX7_init 80 = .ok (.putfield 37, 3) := by decide +kernel
theorem dX7_init_83 : decode cX7_init 83 = .ok (.aload_n 0, 1) := by decide +kernel
theorem dX7_init_84 : decode cX7_init 84 = .ok (.new 41, 3) := by decide +kernel
theorem dX7_init_87 : decode cX7_init 87 = .ok (.dup, 1) := by decide +kernel
theorem dX7_init_88 : decode cX7_init 88 = .ok (.invokespecial 43, 3) := by decide +kernel
theorem dX7_init_91 : decode cX7_init 91 = .ok (.putfield 44, 3) := by decide +kernel
theorem dX7_init_94 : decode cX7_init 94 = .ok (.aload_n 0, 1) := by decide +kernel
theorem dX7_init_95 : decode cX7_init 95 = .ok (.new 48, 3) := by decide +kernel
theorem dX7_init_98 : decode cX7_init 98 = .ok (.dup, 1) := by decide +kernel
theorem dX7_init_99 : decode cX7_init 99 = .ok (.invokespecial 50, 3) := by decide +kernel
theorem dX7_init_102 : decode cX7_init 102 = .ok (.putfield 51, 3) := by decide +kernel
theorem dX7_init_105 : decode cX7_init 105 = .ok (.aload_n 0, 1) := by decide +kernel
theorem dX7_init_106 : decode cX7_init 106 = .ok (.new 55, 3) := by decide +kernel
theorem dX7_init_109 : decode cX7_init 109 = .ok (.dup, 1) := by decide +kernel
theorem dX7_init_110 : decode cX7_init 110 = .ok (.invokespecial 57, 3) := by decide +kernel
theorem dX7_init_113 : decode cX7_init 113 = .ok (.putfield 58, 3) := by decide +kernel
theorem dX7_init_116 : decode cX7_init 116 = .ok (.aload_n 0, 1) := by decide +kernel
theorem dX7_init_117 : decode cX7_init 117 = .ok (.new 62, 3) := by decide +kernel
theorem dX7_init_120 : decode cX7_init 120 = .ok (.dup, 1) := by decide +kernel
theorem dX7_init_121 : decode cX7_init 121 = .ok (.invokespecial 64, 3) := by decide +kernel
theorem dX7_init_124 : decode cX7_init 124 = .ok (.putfield 65, 3) := by decide +kernel
theorem dX7_init_127 : decode cX7_init 127 = .ok (.return_, 1) := by decide +kernel
set_option maxRecDepth 20000 in
theorem ggX7_type_X7_isWithin : GoodIn wsX7_type wsX7_isWithin := goodIn_r _ [5] (by decide +kernel) (by decide +kernel)
set_option maxRecDepth 20000 in
theorem gX7_type_X7_isWithin : GoodIn wsX7_type (va_wsS RX7 69 yX7_isWithin wsX7_isWithin) := goodIn_app (goodIn_of _ (by decide +kernel)) ggX7_type_X7_isWithin
set_option maxRecDepth 20000 in
theorem ggX7_type_X6_isFull : GoodIn wsX7_type wsX6_isFull := goodIn_r _ [10, 11, 28, 29, 30, 31] (by decide +kernel) (by decide +kernel)
set_option maxRecDepth 20000 in
theorem gX7_type_X6_isFull : GoodIn wsX7_type (wsV RX7 73 RX6 yX6_isFull wsX6_isFull) := goodIn_app (goodIn_of _ (by decide +kernel)) ggX7_type_X6_isFull
set_option maxRecDepth 20000 in
theorem ggX7_type_X6_append : GoodIn wsX7_type wsX6_append := goodIn_r _ [15, 16, 11, 17, 7, 8, 9, 10, 28, 29, 30, 31] (by decide +kernel) (by decide +kernel)
set_option maxRecDepth 20000 in
theorem gX7_type_X6_append : GoodIn wsX7_type (wsV RX7 77 RX6 yX6_append wsX6_append) := goodIn_app (goodIn_of _ (by decide +kernel)) ggX7_type_X6_append
theorem dX7_type_0 : decode cX7_type 0 = .ok (.iload_n 1, 1) := by decide +kernel
theorem dX7_type_1 : decode cX7_type 1 = .ok (.iconst 0, 1) := by decide +kernel
theorem dX7_type_2 : decode cX7_type 2 = .ok (.sipush 255, 3) := by decide +kernel
theorem dX7_type_5 : decode cX7_type 5 = .ok (.invokestatic 69, 3) := by decide +kernel
theorem dX7_type_8 : decode cX7_type 8 = .ok (.ifCond .ne 5, 3) := by decide +kernel
theorem dX7_type_11 : decode cX7_type 11 = .ok (.iconst (-1), 1) := by decide +kernel
theorem dX7_type_12 : decode cX7_type 12 = .ok (.ireturn, 1) := by decide +kernel
theorem dX7_type_13 : decode cX7_type 13 = .ok (.aload_n 0, 1) := by decide +kernel
theorem dX7_type_14 : decode cX7_type 14 = .ok (.getfield 10, 3) := by decide +kernel
theorem dX7_type_17 : decode cX7_type 17 = .ok (.invokevirtual 73, 3) := by decide +kernel
theorem dX7_type_20 : decode cX7_type 20 = .ok (.ifCond .eq 6, 3) := by decide +kernel
theorem dX7_type_23 : decode cX7_type 23 = .ok (.bipush (-3), 2) := by decide +kernel
theorem dX7_type_25 : decode cX7_type 25 = .ok (.ireturn, 1) := by decide +kernel
theorem dX7_type_26 : decode cX7_type 26 = .ok (.aload_n 0, 1) := by decide +kernel
theorem dX7_type_27 : decode cX7_type 27 = .ok (.getfield 10, 3) := by decide +kernel
theorem dX7_type_30 : decode cX7_type 30 = .ok (.iload_n 1, 1) := by decide +kernel
theorem dX7_type_31 : decode cX7_type 31 = .ok (.invokevirtual 77, 3) := by decide +kernel
theorem dX7_type_34 : decode cX7_type 34 = .ok (.aload_n 0, 1) := by decide +kernel
theorem dX7_type_35 : decode cX7_type 35 = .ok (.getfield 10, 3) := by decide +kernel
theorem dX7_type_38 : decode cX7_type 38 = .ok (.getfield 81, 3) := by decide +kernel
theorem dX7_type_41 : decode cX7_type 41 = .ok (.ireturn, 1) := by decide +kernel
set_option maxRecDepth 20000 in
theorem ggX7_clear_X6_makeEmpty : GoodIn wsX7_clear wsX6_makeEmpty := goodIn_r _ [6, 7, 18, 19, 20, 21] (by decide +kernel) (by decide +kernel)
set_option maxRecDepth 20000 in
theorem gX7_clear_X6_makeEmpty : GoodIn wsX7_clear (wsV RX7 85 RX6 yX6_makeEmpty wsX6_makeEmpty) := goodIn_app (goodIn_of _ (by decide +kernel)) ggX7_clear_X6_makeEmpty
theorem dX7_clear_0 : decode cX7_clear 0 = .ok (.aload_n 0, 1) := by decide +kernel
theorem dX7_clear_1 : decode cX7_clear 1 = .ok (.getfield 10, 3) := by decide +kernel
theorem dX7_clear_4 : decode cX7_clear 4 = .ok (.getfield 81, 3) := by decide +kernel
theorem dX7_clear_7 : decode cX7_clear 7 = .ok (.istore_n 1, 1) := by decide +kernel
theorem dX7_clear_8 : decode cX7_clear 8 = .ok (.aload_n 0, 1) := by decide +kernel
theorem dX7_clear_9 : decode cX7_clear 9 = .ok (.getfield 10, 3) := by decide +kernel
theorem dX7_clear_12 : decode cX7_clear 12 = .ok (.invokevirtual 85, 3) := by decide +kernel
theorem dX7_clear_15 : decode cX7_clear 15 = .ok (.iload_n 1, 1) := by decide +kernel
theorem dX7_clear_16 : decode cX7_clear 16 = .ok (.ireturn, 1) := by decide +kernel
set_option maxRecDepth 20000 in
theorem ggX7_rule_X6_readInto : GoodIn wsX7_rule wsX6_readInto := goodIn_r _ [11, 12, 13, 14, 15, 16, 17, 18, 19, 20, 21, 22, 23, 24, 25, 10, 26, 27, 28, 29, 30, 31, 32, 33, 34, 35, 36, 37, 38, 39, 40, 41, 42, 43, 44, 45, 46, 47, 48, 49, 50, 51, 52, 53, 54, 55, 56, 57, 58, 59, 60, 61, 62, 63, 64, 65, 66, 67, 68, 69, 70, 71, 72, 73, 74, 75, 76, 77, 78, 79, 80, 81, 82, 113, 114, 115, 116, 117, 118, 119, 120] (by decide +kernel) (by decide +kernel)
set_option maxRecDepth 20000 in
theorem gX7_rule_X6_readInto : GoodIn wsX7_rule (wsV RX7 88 RX6 yX6_readInto wsX6_readInto) := goodIn_app (goodIn_of _ (by decide +kernel)) ggX7_rule_X6_readInto
set_option maxRecDepth 20000 in
theorem ggX7_rule_X5_copyFrom : GoodIn wsX7_rule wsX5_copyFrom := goodIn_r _ [86, 81, 20, 21, 22, 117, 118, 119, 120] (by decide +kernel) (by decide +kernel)
set_option maxRecDepth 20000 in
theorem gX7_rule_X5_copyFrom : GoodIn wsX7_rule (wsV RX7 92 RX5 yX5_copyFrom wsX5_copyFrom) := goodIn_app (goodIn_of _ (by decide +kernel)) ggX7_rule_X5_copyFrom
set_option maxRecDepth 20000 in
theorem ggX7_rule_X1_loseAll : GoodIn wsX7_rule wsX1_loseAll := goodIn_r _ [91, 92, 121, 122, 123] (by decide +kernel) (by decide +kernel)
set_option maxRecDepth 20000 in
theorem gX7_rule_X1_loseAll : GoodIn wsX7_rule (wsV RX7 96 RX1 yX1_loseAll wsX1_loseAll) := goodIn_app (goodIn_of _ (by decide +kernel)) ggX7_rule_X1_loseAll
set_option maxRecDepth 20000 in
theorem ggX7_rule_X4_loseAll : GoodIn wsX7_rule wsX4_loseAll := goodIn_r _ [97, 98, 124, 125, 126, 127, 128, 129] (by decide +kernel) (by decide +kernel)
set_option maxRecDepth 20000 in
theorem gX7_rule_X4_loseAll : GoodIn wsX7_rule (wsV RX7 99 RX4 yX4_loseAll wsX4_loseAll) := goodIn_app (goodIn_of _ (by decide +kernel)) ggX7_rule_X4_loseAll
set_option maxRecDepth 20000 in
theorem ggX7_rule_X6_makeEmpty : GoodIn wsX7_rule wsX6_makeEmpty := goodIn_r _ [102, 14, 113, 114, 115, 116] (by decide +kernel) (by decide +kernel)
set_option maxRecDepth 20000 in
theorem gX7_rule_X6_makeEmpty : GoodIn wsX7_rule (wsV RX7 85 RX6 yX6_makeEmpty wsX6_makeEmpty) := goodIn_app (goodIn_of _ (by decide +kernel)) ggX7_rule_X6_makeEmpty
theorem dX7_rule_0 : decode cX7_rule 0 = .ok (.aload_n 0, 1) := by decide +kernel
theorem dX7_rule_1 : decode cX7_rule 1 = .ok (.getfield 10, 3) := by decide +kernel
theorem dX7_rule_4 : decode cX7_rule 4 = .ok (.aload_n 0, 1) := by decide +kernel
theorem dX7_rule_5 : decode cX7_rule 5 = .ok (.getfield 23, 3) := by decide +kernel
theorem dX7_rule_8 : decode cX7_rule 8 = .ok (.invokevirtual 88, 3) := by decide +kernel
theorem dX7_rule_11 : decode cX7_rule 11 = .ok (.istore_n 1, 1) := by decide +kernel
theorem dX7_rule_12 : decode cX7_rule 12 = .ok (.iload_n 1, 1) := by decide +kernel
theorem dX7_rule_13 : decode cX7_rule 13 = .ok (.iconst (-1), 1) := by decide +kernel
theorem dX7_rule_14 : decode cX7_rule 14 = .ok (.if_icmp .eq 8, 3) := by decide +kernel
theorem dX7_rule_17 : decode cX7_rule 17 = .ok (.bipush (-10), 2) := by decide +kernel
theorem dX7_rule_19 : decode cX7_rule 19 = .ok (.iload_n 1, 1) := by decide +kernel
theorem dX7_rule_20 : decode cX7_rule 20 = .ok (.isub, 1) := by decide +kernel
theorem dX7_rule_21 : decode cX7_rule 21 = .ok (.ireturn, 1) := by decide +kernel
theorem dX7_rule_22 : decode cX7_rule 22 = .ok (.aload_n 0, 1) := by decide +kernel
theorem dX7_rule_23 : decode cX7_rule 23 = .ok (.getfield 19, 3) := by decide +kernel
theorem dX7_rule_26 : decode cX7_rule 26 = .ok (.aload_n 0, 1) := by decide +kernel
theorem dX7_rule_27 : decode cX7_rule 27 = .ok (.getfield 23, 3) := by decide +kernel
theorem dX7_rule_30 : decode cX7_rule 30 = .ok (.invokevirtual 92, 3) := by decide +kernel
theorem dX7_rule_33 : decode cX7_rule 33 = .ok (.aload_n 0, 1) := by decide +kernel
theorem dX7_rule_34 : decode cX7_rule 34 = .ok (.getfield 37, 3) := by decide +kernel
theorem dX7_rule_37 : decode cX7_rule 37 = .ok (.invokevirtual 96, 3) := by decide +kernel
theorem dX7_rule_40 : decode cX7_rule 40 = .ok (.aload_n 0, 1) := by decide +kernel
theorem dX7_rule_41 : decode cX7_rule 41 = .ok (.getfield 58, 3) := by decide +kernel
theorem dX7_rule_44 : decode cX7_rule 44 = .ok (.invokevirtual 99, 3) := by decide +kernel
theorem dX7_rule_47 : decode cX7_rule 47 = .ok (.iconst 0, 1) := by decide +kernel
theorem dX7_rule_48 : decode cX7_rule 48 = .ok (.istore_n 2, 1) := by decide +kernel
theorem dX7_rule_49 : decode cX7_rule 49 = .ok (.iload_n 2, 1) := by decide +kernel
theorem dX7_rule_50 : decode cX7_rule 50 = .ok (.iconst 2, 1) := by decide +kernel
theorem dX7_rule_51 : decode cX7_rule 51 = .ok (.if_icmp .ge 16, 3) := by decide +kernel
theorem dX7_rule_54 : decode cX7_rule 54 = .ok (.aload_n 0, 1) := by decide +kernel
theorem dX7_rule_55 : decode cX7_rule 55 = .ok (.getfield 30, 3) := by decide +kernel
theorem dX7_rule_58 : decode cX7_rule 58 = .ok (.iload_n 2, 1) := by decide +kernel
theorem dX7_rule_59 : decode cX7_rule 59 = .ok (.iconst 0, 1) := by decide +kernel
theorem dX7_rule_60 : decode cX7_rule 60 = .ok (.bastore, 1) := by decide +kernel
theorem dX7_rule_61 : decode cX7_rule 61 = .ok (.iinc 2 1, 3) := by decide +kernel
theorem dX7_rule_64 : decode cX7_rule 64 = .ok (.goto (-15), 3) := by decide +kernel
theorem dX7_rule_67 : decode cX7_rule 67 = .ok (.aload_n 0, 1) := by decide +kernel
theorem dX7_rule_68 : decode cX7_rule 68 = .ok (.getfield 10, 3) := by decide +kernel
theorem dX7_rule_71 : decode cX7_rule 71 = .ok (.invokevirtual 85, 3) := by decide +kernel
theorem dX7_rule_74 : decode cX7_rule 74 = .ok (.aload_n 0, 1) := by decide +kernel
theorem dX7_rule_75 : decode cX7_rule 75 = .ok (.getfield 10, 3) := by decide +kernel
theorem dX7_rule_78 : decode cX7_rule 78 = .ok (.getfield 100, 3) := by decide +kernel
theorem dX7_rule_81 : decode cX7_rule 81 = .ok (.ireturn, 1) := by decide +kernel
set_option maxRecDepth 20000 in
theorem ggX7_link_X5_hasLink : GoodIn wsX7_link wsX5_hasLink := goodIn_r _ [6, 7, 68, 69, 70, 71] (by decide +kernel) (by decide +kernel)
set_option maxRecDepth 20000 in
theorem gX7_link_X5_hasLink : GoodIn wsX7_link (wsV RX7 103 RX5 yX5_hasLink wsX5_hasLink) := goodIn_app (goodIn_of _ (by decide +kernel)) ggX7_link_X5_hasLink
set_option maxRecDepth 20000 in
theorem ggX7_link_X5_lengthOf : GoodIn wsX7_link wsX5_lengthOf := goodIn_r _ [11, 12, 13, 3, 4, 5, 6, 7, 68, 69, 70, 71] (by decide +kernel) (by decide +kernel)
set_option maxRecDepth 20000 in
theorem gX7_link_X5_lengthOf : GoodIn wsX7_link (wsV RX7 107 RX5 yX5_lengthOf wsX5_lengthOf) := goodIn_app (goodIn_of _ (by decide +kernel)) ggX7_link_X5_lengthOf
set_option maxRecDepth 20000 in
theorem ggX7_link_X7_layNow : GoodIn wsX7_link wsX7_layNow := goodIn_r _ [18, 19, 1, 20, 21, 22, 23, 24, 25, 26, 27, 28, 29, 30, 31, 32, 33, 34, 35, 36, 37, 38, 39, 40, 17, 41, 58, 59, 60, 61, 62, 63, 64, 65, 66, 67, 68, 69, 70, 71, 72, 73, 74, 75] (by decide +kernel) (by decide +kernel)
set_option maxRecDepth 20000 in
theorem gX7_link_X7_layNow : GoodIn wsX7_link (wsV RX7 111 RX7 yX7_layNow wsX7_layNow) := goodIn_app (goodIn_of _ (by decide +kernel)) ggX7_link_X7_layNow
set_option maxRecDepth 20000 in
theorem ggX7_link_X2_othersOver : GoodIn wsX7_link wsX2_othersOver := goodIn_r _ [45, 33, 46, 47, 48, 23, 49, 29, 30, 31, 32, 50, 51, 52, 53, 36, 54, 55, 56, 57, 37, 38, 39, 72, 73, 74, 75] (by decide +kernel) (by decide +kernel)
set_option maxRecDepth 20000 in
theorem gX7_link_X2_othersOver : GoodIn wsX7_link (wsV RX7 115 RX2 yX2_othersOver wsX2_othersOver) := goodIn_app (goodIn_of _ (by decide +kernel)) ggX7_link_X2_othersOver
theorem dX7_link_0 : decode cX7_link 0 = .ok (.aload_n 0, 1) := by decide +kernel
theorem dX7_link_1 : decode cX7_link 1 = .ok (.getfield 19, 3) := by decide +kernel
theorem dX7_link_4 : decode cX7_link 4 = .ok (.iload_n 1, 1) := by decide +kernel
theorem dX7_link_5 : decode cX7_link 5 = .ok (.invokevirtual 103, 3) := by decide +kernel
theorem dX7_link_8 : decode cX7_link 8 = .ok (.ifCond .ne 5, 3) := by decide +kernel
theorem dX7_link_11 : decode cX7_link 11 = .ok (.iconst (-1), 1) := by decide +kernel
theorem dX7_link_12 : decode cX7_link 12 = .ok (.ireturn, 1) := by decide +kernel
theorem dX7_link_13 : decode cX7_link 13 = .ok (.iload_n 2, 1) := by decide +kernel
theorem dX7_link_14 : decode cX7_link 14 = .ok (.lookupswitch 44 #[(0, 26), (1, 35)], 26) := by decide +kernel
theorem dX7_link_40 : decode cX7_link 40 = .ok (.aload_n 0, 1) := by decide +kernel
theorem dX7_link_41 : decode cX7_link 41 = .ok (.getfield 19, 3) := by decide +kernel
theorem dX7_link_44 : decode cX7_link 44 = .ok (.iload_n 1, 1) := by decide +kernel
theorem dX7_link_45 : decode cX7_link 45 = .ok (.invokevirtual 107, 3) := by decide +kernel
theorem dX7_link_48 : decode cX7_link 48 = .ok (.ireturn, 1) := by decide +kernel
theorem dX7_link_49 : decode cX7_link 49 = .ok (.aload_n 0, 1) := by decide +kernel
theorem dX7_link_50 : decode cX7_link 50 = .ok (.invokevirtual 111, 3) := by decide +kernel
theorem dX7_link_53 : decode cX7_link 53 = .ok (.iload_n 1, 1) := by decide +kernel
theorem dX7_link_54 : decode cX7_link 54 = .ok (.invokevirtual 115, 3) := by decide +kernel
theorem dX7_link_57 : decode cX7_link 57 = .ok (.ireturn, 1) := by decide +kernel
theorem dX7_link_58 : decode cX7_link 58 = .ok (.iconst (-1), 1) := by decide +kernel
theorem dX7_link_59 : decode cX7_link 59 = .ok (.ireturn, 1) := by decide +kernel
set_option maxRecDepth 20000 in
theorem ggX7_joint_X5_hasJoint : GoodIn wsX7_joint wsX5_hasJoint := goodIn_r _ [6, 7, 8, 9, 5, 10, 11, 12, 13, 14, 15, 30, 31, 32, 33] (by decide +kernel) (by decide +kernel)
set_option maxRecDepth 20000 in
theorem gX7_joint_X5_hasJoint : GoodIn wsX7_joint (wsV RX7 118 RX5 yX5_hasJoint wsX5_hasJoint) := goodIn_app (goodIn_of _ (by decide +kernel)) ggX7_joint_X5_hasJoint
set_option maxRecDepth 20000 in
theorem ggX7_joint_X7_hasBit : GoodIn wsX7_joint wsX7_hasBit := goodIn_r _ [19] (by decide +kernel) (by decide +kernel)
set_option maxRecDepth 20000 in
theorem gX7_joint_X7_hasBit : GoodIn wsX7_joint (va_wsS RX7 124 yX7_hasBit wsX7_hasBit) := goodIn_app (goodIn_of _ (by decide +kernel)) ggX7_joint_X7_hasBit
theorem dX7_joint_0 : decode cX7_joint 0 = .ok (.aload_n 0, 1) := by decide +kernel
theorem dX7_joint_1 : decode cX7_joint 1 = .ok (.getfield 19, 3) := by decide +kernel
theorem dX7_joint_4 : decode cX7_joint 4 = .ok (.iload_n 1, 1) := by decide +kernel
theorem dX7_joint_5 : decode cX7_joint 5 = .ok (.invokevirtual 118, 3) := by decide +kernel
theorem dX7_joint_8 : decode cX7_joint 8 = .ok (.ifCond .ne 5, 3) := by decide +kernel
theorem dX7_joint_11 : decode cX7_joint 11 = .ok (.iconst (-1), 1) := by decide +kernel
theorem dX7_joint_12 : decode cX7_joint 12 = .ok (.ireturn, 1) := by decide +kernel
theorem dX7_joint_13 : decode cX7_joint 13 = .ok (.iload_n 2, 1) := by decide +kernel
theorem dX7_joint_14 : decode cX7_joint 14 = .ok (.lookupswitch 66 #[(0, 26), (1, 46)], 26) := by decide +kernel
theorem dX7_joint_40 : decode cX7_joint 40 = .ok (.aload_n 0, 1) := by decide +kernel
theorem dX7_joint_41 : decode cX7_joint 41 = .ok (.getfield 19, 3) := by decide +kernel
theorem dX7_joint_44 : decode cX7_joint 44 = .ok (.getfield 121, 3) := by decide +kernel
theorem dX7_joint_47 : decode cX7_joint 47 = .ok (.iload_n 1, 1) := by decide +kernel
theorem dX7_joint_48 : decode cX7_joint 48 = .ok (.invokestatic 124, 3) := by decide +kernel
theorem dX7_joint_51 : decode cX7_joint 51 = .ok (.ifCond .eq 7, 3) := by decide +kernel
theorem dX7_joint_54 : decode cX7_joint 54 = .ok (.iconst 1, 1) := by decide +kernel
theorem dX7_joint_55 : decode cX7_joint 55 = .ok (.goto 4, 3) := by decide +kernel
theorem dX7_joint_58 : decode cX7_joint 58 = .ok (.iconst 0, 1) := by decide +kernel
theorem dX7_joint_59 : decode cX7_joint 59 = .ok (.ireturn, 1) := by decide +kernel
theorem dX7_joint_60 : decode cX7_joint 60 = .ok (.aload_n 0, 1) := by decide +kernel
theorem dX7_joint_61 : decode cX7_joint 61 = .ok (.getfield 19, 3) := by decide +kernel
theorem dX7_joint_64 : decode cX7_joint 64 = .ok (.getfield 128, 3) := by decide +kernel
theorem dX7_joint_67 : decode cX7_joint 67 = .ok (.iload_n 1, 1) := by decide +kernel
theorem dX7_joint_68 : decode cX7_joint 68 = .ok (.invokestatic 124, 3) := by decide +kernel
theorem dX7_joint_71 : decode cX7_joint 71 = .ok (.ifCond .eq 7, 3) := by decide +kernel
theorem dX7_joint_74 : decode cX7_joint 74 = .ok (.iconst 1, 1) := by decide +kernel
theorem dX7_joint_75 : decode cX7_joint 75 = .ok (.goto 4, 3) := by decide +kernel
theorem dX7_joint_78 : decode cX7_joint 78 = .ok (.iconst 0, 1) := by decide +kernel
theorem dX7_joint_79 : decode cX7_joint 79 = .ok (.ireturn, 1) := by decide +kernel
theorem dX7_joint_80 : decode cX7_joint 80 = .ok (.iconst (-1), 1) := by decide +kernel
theorem dX7_joint_81 : decode cX7_joint 81 = .ok (.ireturn, 1) := by decide +kernel
set_option maxRecDepth 20000 in
theorem ggX7_mark_X7_isWithin : GoodIn wsX7_mark wsX7_isWithin := goodIn_r _ [6] (by decide +kernel) (by decide +kernel)
set_option maxRecDepth 20000 in
theorem gX7_mark_X7_isWithin : GoodIn wsX7_mark (va_wsS RX7 69 yX7_isWithin wsX7_isWithin) := goodIn_app (goodIn_of _ (by decide +kernel)) ggX7_mark_X7_isWithin
set_option maxRecDepth 20000 in
theorem ggX7_mark_X7_layNow : GoodIn wsX7_mark wsX7_layNow := goodIn_r _ [10, 11, 1, 12, 13, 14, 15, 16, 17, 18, 19, 20, 21, 22, 23, 24, 25, 26, 27, 28, 29, 30, 31, 32, 5, 33, 38, 39, 40, 41, 42, 43, 44, 45, 46, 47, 48, 49, 50, 51, 52, 53, 54, 55] (by decide +kernel) (by decide +kernel)
set_option maxRecDepth 20000 in
theorem gX7_mark_X7_layNow : GoodIn wsX7_mark (wsV RX7 111 RX7 yX7_layNow wsX7_layNow) := goodIn_app (goodIn_of _ (by decide +kernel)) ggX7_mark_X7_layNow
set_option maxRecDepth 20000 in
theorem ggX7_mark_X2_placeOf : GoodIn wsX7_mark wsX2_placeOf := goodIn_r _ [37, 25, 28, 52, 53, 54, 55] (by decide +kernel) (by decide +kernel)
set_option maxRecDepth 20000 in
theorem gX7_mark_X2_placeOf : GoodIn wsX7_mark (wsV RX7 135 RX2 yX2_placeOf wsX2_placeOf) := goodIn_app (goodIn_of _ (by decide +kernel)) ggX7_mark_X2_placeOf
theorem dX7_mark_0 : decode cX7_mark 0 = .ok (.iload_n 1, 1) := by decide +kernel
theorem dX7_mark_1 : decode cX7_mark 1 = .ok (.iconst 0, 1) := by decide +kernel
theorem dX7_mark_2 : decode cX7_mark 2 = .ok (.aload_n 0, 1) := by decide +kernel
theorem dX7_mark_3 : decode cX7_mark 3 = .ok (.getfield 19, 3) := by decide +kernel
theorem dX7_mark_6 : decode cX7_mark 6 = .ok (.getfield 131, 3) := by decide +kernel
theorem dX7_mark_9 : decode cX7_mark 9 = .ok (.invokestatic 69, 3) := by decide +kernel
theorem dX7_mark_12 : decode cX7_mark 12 = .ok (.ifCond .ne 6, 3) := by decide +kernel
theorem dX7_mark_15 : decode cX7_mark 15 = .ok (.ldc 134, 2) := by decide +kernel
theorem dX7_mark_17 : decode cX7_mark 17 = .ok (.ireturn, 1) := by decide +kernel
theorem dX7_mark_18 : decode cX7_mark 18 = .ok (.aload_n 0, 1) := by decide +kernel
theorem dX7_mark_19 : decode cX7_mark 19 = .ok (.invokevirtual 111, 3) := by decide +kernel
theorem dX7_mark_22 : decode cX7_mark 22 = .ok (.iload_n 1, 1) := by decide +kernel
theorem dX7_mark_23 : decode cX7_mark 23 = .ok (.invokevirtual 135, 3) := by decide +kernel
theorem dX7_mark_26 : decode cX7_mark 26 = .ok (.ireturn, 1) := by decide +kernel
set_option maxRecDepth 20000 in
theorem ggX7_now_X7_spanNow : GoodIn wsX7_now wsX7_spanNow := goodIn_r _ [8, 9, 10, 11, 7, 12, 13, 1, 14, 15, 16, 17, 18, 19, 20, 21, 22, 23, 24, 25, 26, 27, 28, 29, 30, 31, 32, 33, 34, 35, 36, 37, 38, 39, 117, 118, 119, 120, 121, 122, 123, 124, 125, 126, 127, 128, 129, 130, 134, 135, 136, 137] (by decide +kernel) (by decide +kernel)
set_option maxRecDepth 20000 in
theorem gX7_now_X7_spanNow : GoodIn wsX7_now (wsV RX7 138 RX7 yX7_spanNow wsX7_spanNow) := goodIn_app (goodIn_of _ (by decide +kernel)) ggX7_now_X7_spanNow
set_option maxRecDepth 20000 in
theorem ggX7_now_X7_layNow : GoodIn wsX7_now wsX7_layNow := goodIn_r _ [12, 13, 1, 14, 15, 16, 17, 18, 19, 20, 21, 22, 23, 24, 25, 26, 27, 28, 29, 30, 31, 32, 33, 34, 7, 35, 117, 118, 119, 120, 121, 122, 123, 124, 125, 126, 127, 128, 129, 130, 134, 135, 136, 137] (by decide +kernel) (by decide +kernel)
set_option maxRecDepth 20000 in
theorem gX7_now_X7_layNow : GoodIn wsX7_now (wsV RX7 111 RX7 yX7_layNow wsX7_layNow) := goodIn_app (goodIn_of _ (by decide +kernel)) ggX7_now_X7_layNow
set_option maxRecDepth 20000 in
theorem ggX7_now_X2_stack : GoodIn wsX7_now wsX2_stack := goodIn_r _ [43, 27, 31, 32, 25, 33, 44, 45, 46, 17, 47, 23, 24, 26, 48, 49, 50, 51, 30, 52, 53, 54, 55, 56, 57, 58, 59, 134, 135, 136, 137] (by decide +kernel) (by decide +kernel)
set_option maxRecDepth 20000 in
theorem gX7_now_X2_stack : GoodIn wsX7_now (wsV RX7 142 RX2 yX2_stack wsX2_stack) := goodIn_app (goodIn_of _ (by decide +kernel)) ggX7_now_X2_stack
set_option maxRecDepth 20000 in
theorem ggX7_now_X0_leastSpan : GoodIn wsX7_now wsX0_leastSpan := goodIn_r _ [64, 65, 66, 67, 68, 63, 69, 70, 71, 72, 73, 74, 75, 76, 77, 78, 79, 80, 32, 25, 33, 81, 82, 83, 84, 85, 86, 87, 88, 15, 16, 17, 18, 19, 20, 21, 22, 23, 24, 26, 27, 28, 29, 30, 31, 34, 7, 35, 89, 37, 38, 39, 138, 139, 127, 128, 129, 130, 134, 135, 136, 137] (by decide +kernel) (by decide +kernel)
set_option maxRecDepth 20000 in
theorem gX7_now_X0_leastSpan : GoodIn wsX7_now (wsV RX7 145 RX0 yX0_leastSpan wsX0_leastSpan) := goodIn_app (goodIn_of _ (by decide +kernel)) ggX7_now_X0_leastSpan
set_option maxRecDepth 20000 in
theorem ggX7_now_X0_leastFold : GoodIn wsX7_now wsX0_leastFold := goodIn_r _ [69, 65, 70, 71, 72, 73, 74, 75, 76, 77, 78, 79, 80, 32, 25, 33, 81, 82, 83, 84, 85, 86, 87, 88, 15, 16, 17, 18, 19, 20, 21, 22, 23, 24, 26, 27, 28, 29, 30, 31, 34, 7, 35, 89, 37, 38, 39, 138, 139, 127, 128, 129, 130, 134, 135, 136, 137] (by decide +kernel) (by decide +kernel)
set_option maxRecDepth 20000 in
theorem gX7_now_X0_leastFold : GoodIn wsX7_now (wsV RX7 148 RX0 yX0_leastFold wsX0_leastFold) := goodIn_app (goodIn_of _ (by decide +kernel)) ggX7_now_X0_leastFold
set_option maxRecDepth 20000 in
theorem ggX7_now_X0_greatestEnd : GoodIn wsX7_now wsX0_greatestEnd := goodIn_r _ [94, 65, 95, 32, 25, 33, 70, 71, 72, 73, 74, 75, 76, 77, 78, 79, 80, 81, 82, 83, 84, 85, 86, 87, 88, 15, 16, 17, 18, 19, 20, 21, 22, 23, 24, 26, 27, 28, 29, 30, 31, 34, 7, 35, 96, 97, 98, 99, 48, 49, 50, 51, 138, 139, 127, 128, 129, 130, 134, 135, 136, 137] (by decide +kernel) (by decide +kernel)
set_option maxRecDepth 20000 in
theorem gX7_now_X0_greatestEnd : GoodIn wsX7_now (wsV RX7 151 RX0 yX0_greatestEnd wsX0_greatestEnd) := goodIn_app (goodIn_of _ (by decide +kernel)) ggX7_now_X0_greatestEnd
set_option maxRecDepth 20000 in
theorem ggX7_now_X0_gap : GoodIn wsX7_now wsX0_gap := goodIn_r _ [103, 104, 105, 106, 107, 63, 108, 65, 70, 71, 72, 73, 74, 75, 76, 77, 78, 79, 80, 32, 25, 33, 81, 82, 83, 84, 85, 86, 87, 88, 15, 16, 17, 18, 19, 20, 21, 22, 23, 24, 26, 27, 28, 29, 30, 31, 34, 7, 35, 109, 110, 111, 112, 113, 114, 115, 116, 49, 50, 51, 138, 139, 127, 128, 129, 130, 134, 135, 136, 137] (by decide +kernel) (by decide +kernel)
set_option maxRecDepth 20000 in
theorem gX7_now_X0_gap : GoodIn wsX7_now (wsV RX7 154 RX0 yX0_gap wsX0_gap) := goodIn_app (goodIn_of _ (by decide +kernel)) ggX7_now_X0_gap
theorem dX7_now_0 : decode cX7_now 0 = .ok (.iload_n 1, 1) := by decide +kernel
theorem dX7_now_1 : decode cX7_now 1 = .ok (.tableswitch 124 0 7 #[47, 52, 60, 68, 80, 92, 104, 116], 47) := by decide +kernel
theorem dX7_now_48 : decode cX7_now 48 = .ok (.aload_n 0, 1) := by decide +kernel
theorem dX7_now_49 : decode cX7_now 49 = .ok (.invokevirtual 138, 3) := by decide +kernel
theorem dX7_now_52 : decode cX7_now 52 = .ok (.ireturn, 1) := by decide +kernel
theorem dX7_now_53 : decode cX7_now 53 = .ok (.aload_n 0, 1) := by decide +kernel
theorem dX7_now_54 : decode cX7_now 54 = .ok (.invokevirtual 111, 3) := by decide +kernel
theorem dX7_now_57 : decode cX7_now 57 = .ok (.invokevirtual 142, 3) := by decide +kernel
theorem dX7_now_60 : decode cX7_now 60 = .ok (.ireturn, 1) := by decide +kernel
theorem dX7_now_61 : decode cX7_now 61 = .ok (.aload_n 0, 1) := by decide +kernel
theorem dX7_now_62 : decode cX7_now 62 = .ok (.getfield 19, 3) := by decide +kernel
theorem dX7_now_65 : decode cX7_now 65 = .ok (.getfield 121, 3) := by decide +kernel
theorem dX7_now_68 : decode cX7_now 68 = .ok (.ireturn, 1) := by decide +kernel
theorem dX7_now_69 : decode cX7_now 69 = .ok (.aload_n 0, 1) := by decide +kernel
theorem dX7_now_70 : decode cX7_now 70 = .ok (.getfield 51, 3) := by decide +kernel
theorem dX7_now_73 : decode cX7_now 73 = .ok (.aload_n 0, 1) := by decide +kernel
theorem dX7_now_74 : decode cX7_now 74 = .ok (.getfield 19, 3) := by decide +kernel
theorem dX7_now_77 : decode cX7_now 77 = .ok (.invokevirtual 145, 3) := by decide +kernel
theorem dX7_now_80 : decode cX7_now 80 = .ok (.ireturn, 1) := by decide +kernel
theorem dX7_now_81 : decode cX7_now 81 = .ok (.aload_n 0, 1) := by decide +kernel
theorem dX7_now_82 : decode cX7_now 82 = .ok (.getfield 51, 3) := by decide +kernel
theorem dX7_now_85 : decode cX7_now 85 = .ok (.aload_n 0, 1) := by decide +kernel
theorem dX7_now_86 : decode cX7_now 86 = .ok (.getfield 19, 3) := by decide +kernel
theorem dX7_now_89 : decode cX7_now 89 = .ok (.invokevirtual 148, 3) := by decide +kernel
theorem dX7_now_92 : decode cX7_now 92 = .ok (.ireturn, 1) := by decide +kernel
theorem dX7_now_93 : decode cX7_now 93 = .ok (.aload_n 0, 1) := by decide +kernel
theorem dX7_now_94 : decode cX7_now 94 = .ok (.getfield 51, 3) := by decide +kernel
theorem dX7_now_97 : decode cX7_now 97 = .ok (.aload_n 0, 1) := by decide +kernel
theorem dX7_now_98 : decode cX7_now 98 = .ok (.getfield 19, 3) := by decide +kernel
theorem dX7_now_101 : decode cX7_now 101 = .ok (.invokevirtual 151, 3) := by decide +kernel
theorem dX7_now_104 : decode cX7_now 104 = .ok (.ireturn, 1) := by decide +kernel
theorem dX7_now_105 : decode cX7_now 105 = .ok (.aload_n 0, 1) := by decide +kernel
theorem dX7_now_106 : decode cX7_now 106 = .ok (.getfield 51, 3) := by decide +kernel
theorem dX7_now_109 : decode cX7_now 109 = .ok (.aload_n 0, 1) := by decide +kernel
theorem dX7_now_110 : decode cX7_now 110 = .ok (.getfield 19, 3) := by decide +kernel
theorem dX7_now_113 : decode cX7_now 113 = .ok (.invokevirtual 154, 3) := by decide +kernel
theorem dX7_now_116 : decode cX7_now 116 = .ok (.ireturn, 1) := by decide +kernel
theorem dX7_now_117 : decode cX7_now 117 = .ok (.aload_n 0, 1) := by decide +kernel
theorem dX7_now_118 : decode cX7_now 118 = .ok (.getfield 37, 3) := by decide +kernel
theorem dX7_now_121 : decode cX7_now 121 = .ok (.getfield 157, 3) := by decide +kernel
theorem dX7_now_124 : decode cX7_now 124 = .ok (.ireturn, 1) := by decide +kernel
theorem dX7_now_125 : decode cX7_now 125 = .ok (.iconst (-1), 1) := by decide +kernel
theorem dX7_now_126 : decode cX7_now 126 = .ok (.ireturn, 1) := by decide +kernel
set_option maxRecDepth 20000 in
theorem ggX7_bends_X5_hasJoint : GoodIn wsX7_bends wsX5_hasJoint := goodIn_r _ [7, 8, 9, 10, 6, 11, 12, 13, 14, 15, 16, 81, 82, 83, 84] (by decide +kernel) (by decide +kernel)
set_option maxRecDepth 20000 in
theorem gX7_bends_X5_hasJoint : GoodIn wsX7_bends (wsV RX7 118 RX5 yX5_hasJoint wsX5_hasJoint) := goodIn_app (goodIn_of _ (by decide +kernel)) ggX7_bends_X5_hasJoint
set_option maxRecDepth 20000 in
theorem ggX7_bends_X7_hasBit : GoodIn wsX7_bends wsX7_hasBit := goodIn_r _ [20] (by decide +kernel) (by decide +kernel)
set_option maxRecDepth 20000 in
theorem gX7_bends_X7_hasBit : GoodIn wsX7_bends (va_wsS RX7 124 yX7_hasBit wsX7_hasBit) := goodIn_app (goodIn_of _ (by decide +kernel)) ggX7_bends_X7_hasBit
set_option maxRecDepth 20000 in
theorem ggX7_bends_X1_remember : GoodIn wsX7_bends wsX1_remember := goodIn_r _ [25, 26, 27, 28, 29, 30, 15, 31, 32, 33, 34, 6, 35, 36, 12, 37, 38, 85, 86, 87, 81, 82, 83, 84] (by decide +kernel) (by decide +kernel)
set_option maxRecDepth 20000 in
theorem gX7_bends_X1_remember : GoodIn wsX7_bends (wsV RX7 158 RX1 yX1_remember wsX1_remember) := goodIn_app (goodIn_of _ (by decide +kernel)) ggX7_bends_X1_remember
set_option maxRecDepth 20000 in
theorem ggX7_bends_X5_bend : GoodIn wsX7_bends wsX5_bend := goodIn_r _ [42, 37, 81, 82, 83, 84] (by decide +kernel) (by decide +kernel)
set_option maxRecDepth 20000 in
theorem gX7_bends_X5_bend : GoodIn wsX7_bends (wsV RX7 161 RX5 yX5_bend wsX5_bend) := goodIn_app (goodIn_of _ (by decide +kernel)) ggX7_bends_X5_bend
set_option maxRecDepth 20000 in
theorem ggX7_bends_X7_spanNow : GoodIn wsX7_bends wsX7_spanNow := goodIn_r _ [46, 47, 48, 49, 19, 50, 51, 1, 52, 53, 54, 55, 56, 57, 58, 59, 60, 61, 30, 15, 31, 62, 63, 64, 65, 66, 14, 16, 18, 20, 67, 68, 69, 70, 71, 72, 73, 74, 75, 76, 77, 78, 79, 80, 81, 82, 83, 84, 88, 89, 90, 91] (by decide +kernel) (by decide +kernel)
set_option maxRecDepth 20000 in
theorem gX7_bends_X7_spanNow : GoodIn wsX7_bends (wsV RX7 138 RX7 yX7_spanNow wsX7_spanNow) := goodIn_app (goodIn_of _ (by decide +kernel)) ggX7_bends_X7_spanNow
theorem dX7_bends_0 : decode cX7_bends 0 = .ok (.aload_n 0, 1) := by decide +kernel
theorem dX7_bends_1 : decode cX7_bends 1 = .ok (.getfield 19, 3) := by decide +kernel
theorem dX7_bends_4 : decode cX7_bends 4 = .ok (.iload_n 1, 1) := by decide +kernel
theorem dX7_bends_5 : decode cX7_bends 5 = .ok (.invokevirtual 118, 3) := by decide +kernel
theorem dX7_bends_8 : decode cX7_bends 8 = .ok (.ifCond .ne 5, 3) := by decide +kernel
theorem dX7_bends_11 : decode cX7_bends 11 = .ok (.iconst (-1), 1) := by decide +kernel
theorem dX7_bends_12 : decode cX7_bends 12 = .ok (.ireturn, 1) := by decide +kernel
theorem dX7_bends_13 : decode cX7_bends 13 = .ok (.aload_n 0, 1) := by decide +kernel
theorem dX7_bends_14 : decode cX7_bends 14 = .ok (.getfield 19, 3) := by decide +kernel
theorem dX7_bends_17 : decode cX7_bends 17 = .ok (.getfield 128, 3) := by decide +kernel
theorem dX7_bends_20 : decode cX7_bends 20 = .ok (.iload_n 1, 1) := by decide +kernel
theorem dX7_bends_21 : decode cX7_bends 21 = .ok (.invokestatic 124, 3) := by decide +kernel
theorem dX7_bends_24 : decode cX7_bends 24 = .ok (.ifCond .eq 6, 3) := by decide +kernel
theorem dX7_bends_27 : decode cX7_bends 27 = .ok (.bipush (-2), 2) := by decide +kernel
theorem dX7_bends_29 : decode cX7_bends 29 = .ok (.ireturn, 1) := by decide +kernel
theorem dX7_bends_30 : decode cX7_bends 30 = .ok (.aload_n 0, 1) := by decide +kernel
theorem dX7_bends_31 : decode cX7_bends 31 = .ok (.getfield 37, 3) := by decide +kernel
theorem dX7_bends_34 : decode cX7_bends 34 = .ok (.aload_n 0, 1) := by decide +kernel
theorem dX7_bends_35 : decode cX7_bends 35 = .ok (.getfield 19, 3) := by decide +kernel
theorem dX7_bends_38 : decode cX7_bends 38 = .ok (.invokevirtual 158, 3) := by decide +kernel
theorem dX7_bends_41 : decode cX7_bends 41 = .ok (.aload_n 0, 1) := by decide +kernel
theorem dX7_bends_42 : decode cX7_bends 42 = .ok (.getfield 19, 3) := by decide +kernel
theorem dX7_bends_45 : decode cX7_bends 45 = .ok (.iload_n 1, 1) := by decide +kernel
theorem dX7_bends_46 : decode cX7_bends 46 = .ok (.invokevirtual 161, 3) := by decide +kernel
theorem dX7_bends_49 : decode cX7_bends 49 = .ok (.aload_n 0, 1) := by decide +kernel
theorem dX7_bends_50 : decode cX7_bends 50 = .ok (.invokevirtual 138, 3) := by decide +kernel
theorem dX7_bends_53 : decode cX7_bends 53 = .ok (.ireturn, 1) := by decide +kernel
set_option maxRecDepth 20000 in
theorem ggX7_files_X5_hasLink : GoodIn wsX7_files wsX5_hasLink := goodIn_r _ [7, 8, 56, 57, 58, 59] (by decide +kernel) (by decide +kernel)
set_option maxRecDepth 20000 in
theorem gX7_files_X5_hasLink : GoodIn wsX7_files (wsV RX7 103 RX5 yX5_hasLink wsX5_hasLink) := goodIn_app (goodIn_of _ (by decide +kernel)) ggX7_files_X5_hasLink
set_option maxRecDepth 20000 in
theorem ggX7_files_X7_isWithin : GoodIn wsX7_files wsX7_isWithin := goodIn_r _ [12] (by decide +kernel) (by decide +kernel)
set_option maxRecDepth 20000 in
theorem gX7_files_X7_isWithin : GoodIn wsX7_files (va_wsS RX7 69 yX7_isWithin wsX7_isWithin) := goodIn_app (goodIn_of _ (by decide +kernel)) ggX7_files_X7_isWithin
set_option maxRecDepth 20000 in
theorem ggX7_files_X5_canFile : GoodIn wsX7_files wsX5_canFile := goodIn_r _ [16, 17, 18, 19, 6, 20, 21, 22, 4, 5, 7, 8, 56, 57, 58, 59] (by decide +kernel) (by decide +kernel)
set_option maxRecDepth 20000 in
theorem gX7_files_X5_canFile : GoodIn wsX7_files (wsV RX7 164 RX5 yX5_canFile wsX5_canFile) := goodIn_app (goodIn_of _ (by decide +kernel)) ggX7_files_X5_canFile
set_option maxRecDepth 20000 in
theorem ggX7_files_X1_remember : GoodIn wsX7_files wsX1_remember := goodIn_r _ [27, 28, 29, 30, 31, 32, 33, 34, 35, 36, 37, 6, 38, 21, 8, 39, 40, 60, 61, 62, 56, 57, 58, 59] (by decide +kernel) (by decide +kernel)
set_option maxRecDepth 20000 in
theorem gX7_files_X1_remember : GoodIn wsX7_files (wsV RX7 158 RX1 yX1_remember wsX1_remember) := goodIn_app (goodIn_of _ (by decide +kernel)) ggX7_files_X1_remember
set_option maxRecDepth 20000 in
theorem ggX7_files_X5_file : GoodIn wsX7_files wsX5_file := goodIn_r _ [44, 21, 22, 4, 5, 6, 7, 8, 56, 57, 58, 59] (by decide +kernel) (by decide +kernel)
set_option maxRecDepth 20000 in
theorem gX7_files_X5_file : GoodIn wsX7_files (wsV RX7 167 RX5 yX5_file wsX5_file) := goodIn_app (goodIn_of _ (by decide +kernel)) ggX7_files_X5_file
set_option maxRecDepth 20000 in
theorem ggX7_files_X5_lengthOf : GoodIn wsX7_files wsX5_lengthOf := goodIn_r _ [20, 21, 22, 4, 5, 6, 7, 8, 56, 57, 58, 59] (by decide +kernel) (by decide +kernel)
set_option maxRecDepth 20000 in
theorem gX7_files_X5_lengthOf : GoodIn wsX7_files (wsV RX7 107 RX5 yX5_lengthOf wsX5_lengthOf) := goodIn_app (goodIn_of _ (by decide +kernel)) ggX7_files_X5_lengthOf
theorem dX7_files_0 : decode cX7_files 0 = .ok (.aload_n 0, 1) := by decide +kernel
theorem dX7_files_1 : decode cX7_files 1 = .ok (.getfield 19, 3) := by decide +kernel
theorem dX7_files_4 : decode cX7_files 4 = .ok (.iload_n 1, 1) := by decide +kernel
theorem dX7_files_5 : decode cX7_files 5 = .ok (.invokevirtual 103, 3) := by decide +kernel
theorem dX7_files_8 : decode cX7_files 8 = .ok (.ifCond .eq 13, 3) := by decide +kernel
theorem dX7_files_11 : decode cX7_files 11 = .ok (.iload_n 2, 1) := by decide +kernel
theorem dX7_files_12 : decode cX7_files 12 = .ok (.iconst 1, 1) := by decide +kernel
theorem dX7_files_13 : decode cX7_files 13 = .ok (.bipush 19, 2) := by decide +kernel
theorem dX7_files_15 : decode cX7_files 15 = .ok (.invokestatic 69, 3) := by decide +kernel
theorem dX7_files_18 : decode cX7_files 18 = .ok (.ifCond .ne 5, 3) := by decide +kernel
theorem dX7_files_21 : decode cX7_files 21 = .ok (.iconst (-1), 1) := by decide +kernel
theorem dX7_files_22 : decode cX7_files 22 = .ok (.ireturn, 1) := by decide +kernel
theorem dX7_files_23 : decode cX7_files 23 = .ok (.aload_n 0, 1) := by decide +kernel
theorem dX7_files_24 : decode cX7_files 24 = .ok (.getfield 19, 3) := by decide +kernel
theorem dX7_files_27 : decode cX7_files 27 = .ok (.iload_n 1, 1) := by decide +kernel
theorem dX7_files_28 : decode cX7_files 28 = .ok (.iload_n 2, 1) := by decide +kernel
theorem dX7_files_29 : decode cX7_files 29 = .ok (.invokevirtual 164, 3) := by decide +kernel
theorem dX7_files_32 : decode cX7_files 32 = .ok (.ifCond .ne 6, 3) := by decide +kernel
theorem dX7_files_35 : decode cX7_files 35 = .ok (.bipush (-2), 2) := by decide +kernel
theorem dX7_files_37 : decode cX7_files 37 = .ok (.ireturn, 1) := by decide +kernel
theorem dX7_files_38 : decode cX7_files 38 = .ok (.aload_n 0, 1) := by decide +kernel
theorem dX7_files_39 : decode cX7_files 39 = .ok (.getfield 37, 3) := by decide +kernel
theorem dX7_files_42 : decode cX7_files 42 = .ok (.aload_n 0, 1) := by decide +kernel
theorem dX7_files_43 : decode cX7_files 43 = .ok (.getfield 19, 3) := by decide +kernel
theorem dX7_files_46 : decode cX7_files 46 = .ok (.invokevirtual 158, 3) := by decide +kernel
theorem dX7_files_49 : decode cX7_files 49 = .ok (.aload_n 0, 1) := by decide +kernel
theorem dX7_files_50 : decode cX7_files 50 = .ok (.getfield 19, 3) := by decide +kernel
theorem dX7_files_53 : decode cX7_files 53 = .ok (.iload_n 1, 1) := by decide +kernel
theorem dX7_files_54 : decode cX7_files 54 = .ok (.iload_n 2, 1) := by decide +kernel
theorem dX7_files_55 : decode cX7_files 55 = .ok (.invokevirtual 167, 3) := by decide +kernel
theorem dX7_files_58 : decode cX7_files 58 = .ok (.aload_n 0, 1) := by decide +kernel
theorem dX7_files_59 : decode cX7_files 59 = .ok (.getfield 19, 3) := by decide +kernel
theorem dX7_files_62 : decode cX7_files 62 = .ok (.iload_n 1, 1) := by decide +kernel
theorem dX7_files_63 : decode cX7_files 63 = .ok (.invokevirtual 107, 3) := by decide +kernel
theorem dX7_files_66 : decode cX7_files 66 = .ok (.ireturn, 1) := by decide +kernel
set_option maxRecDepth 20000 in
theorem ggX7_turned_X1_remember : GoodIn wsX7_turned wsX1_remember := goodIn_r _ [7, 8, 9, 10, 11, 12, 13, 14, 15, 16, 17, 18, 19, 20, 21, 22, 23, 53, 54, 55, 49, 50, 51, 52] (by decide +kernel) (by decide +kernel)
set_option maxRecDepth 20000 in
theorem gX7_turned_X1_remember : GoodIn wsX7_turned (wsV RX7 158 RX1 yX1_remember wsX1_remember) := goodIn_app (goodIn_of _ (by decide +kernel)) ggX7_turned_X1_remember
set_option maxRecDepth 20000 in
theorem ggX7_turned_X5_turnAbout : GoodIn wsX7_turned wsX5_turnAbout := goodIn_r _ [27, 21, 20, 22, 23, 28, 29, 30, 18, 31, 32, 33, 34, 35, 36, 37, 13, 38, 49, 50, 51, 52] (by decide +kernel) (by decide +kernel)
set_option maxRecDepth 20000 in
theorem gX7_turned_X5_turnAbout : GoodIn wsX7_turned (wsV RX7 171 RX5 yX5_turnAbout wsX5_turnAbout) := goodIn_app (goodIn_of _ (by decide +kernel)) ggX7_turned_X5_turnAbout
theorem dX7_turned_0 : decode cX7_turned 0 = .ok (.aload_n 0, 1) := by decide +kernel
theorem dX7_turned_1 : decode cX7_turned 1 = .ok (.getfield 19, 3) := by decide +kernel
theorem dX7_turned_4 : decode cX7_turned 4 = .ok (.getfield 131, 3) := by decide +kernel
theorem dX7_turned_7 : decode cX7_turned 7 = .ok (.ifCond .ne 6, 3) := by decide +kernel
theorem dX7_turned_10 : decode cX7_turned 10 = .ok (.bipush (-2), 2) := by decide +kernel
theorem dX7_turned_12 : decode cX7_turned 12 = .ok (.ireturn, 1) := by decide +kernel
theorem dX7_turned_13 : decode cX7_turned 13 = .ok (.aload_n 0, 1) := by decide +kernel
theorem dX7_turned_14 : decode cX7_turned 14 = .ok (.getfield 37, 3) := by decide +kernel
theorem dX7_turned_17 : decode cX7_turned 17 = .ok (.aload_n 0, 1) := by decide +kernel
theorem dX7_turned_18 : decode cX7_turned 18 = .ok (.getfield 19, 3) := by decide +kernel
theorem dX7_turned_21 : decode cX7_turned 21 = .ok (.invokevirtual 158, 3) := by decide +kernel
theorem dX7_turned_24 : decode cX7_turned 24 = .ok (.aload_n 0, 1) := by decide +kernel
theorem dX7_turned_25 : decode cX7_turned 25 = .ok (.getfield 19, 3) := by decide +kernel
theorem dX7_turned_28 : decode cX7_turned 28 = .ok (.invokevirtual 171, 3) := by decide +kernel
theorem dX7_turned_31 : decode cX7_turned 31 = .ok (.aload_n 0, 1) := by decide +kernel
theorem dX7_turned_32 : decode cX7_turned 32 = .ok (.getfield 19, 3) := by decide +kernel
theorem dX7_turned_35 : decode cX7_turned 35 = .ok (.getfield 121, 3) := by decide +kernel
theorem dX7_turned_38 : decode cX7_turned 38 = .ok (.ireturn, 1) := by decide +kernel
set_option maxRecDepth 20000 in
theorem ggX7_undo_X1_restore : GoodIn wsX7_undo wsX1_restore := goodIn_r _ [7, 8, 9, 10, 11, 12, 13, 14, 15, 16, 17, 18, 19, 30, 31, 32, 33, 34, 35, 36] (by decide +kernel) (by decide +kernel)
set_option maxRecDepth 20000 in
theorem gX7_undo_X1_restore : GoodIn wsX7_undo (wsV RX7 174 RX1 yX1_restore wsX1_restore) := goodIn_app (goodIn_of _ (by decide +kernel)) ggX7_undo_X1_restore
theorem dX7_undo_0 : decode cX7_undo 0 = .ok (.aload_n 0, 1) := by decide +kernel
theorem dX7_undo_1 : decode cX7_undo 1 = .ok (.getfield 37, 3) := by decide +kernel
theorem dX7_undo_4 : decode cX7_undo 4 = .ok (.getfield 157, 3) := by decide +kernel
theorem dX7_undo_7 : decode cX7_undo 7 = .ok (.ifCond .ne 6, 3) := by decide +kernel
theorem dX7_undo_10 : decode cX7_undo 10 = .ok (.bipush (-2), 2) := by decide +kernel
theorem dX7_undo_12 : decode cX7_undo 12 = .ok (.ireturn, 1) := by decide +kernel
theorem dX7_undo_13 : decode cX7_undo 13 = .ok (.aload_n 0, 1) := by decide +kernel
theorem dX7_undo_14 : decode cX7_undo 14 = .ok (.getfield 37, 3) := by decide +kernel
theorem dX7_undo_17 : decode cX7_undo 17 = .ok (.aload_n 0, 1) := by decide +kernel
theorem dX7_undo_18 : decode cX7_undo 18 = .ok (.getfield 19, 3) := by decide +kernel
theorem dX7_undo_21 : decode cX7_undo 21 = .ok (.invokevirtual 174, 3) := by decide +kernel
theorem dX7_undo_24 : decode cX7_undo 24 = .ok (.aload_n 0, 1) := by decide +kernel
theorem dX7_undo_25 : decode cX7_undo 25 = .ok (.getfield 37, 3) := by decide +kernel
theorem dX7_undo_28 : decode cX7_undo 28 = .ok (.getfield 157, 3) := by decide +kernel
theorem dX7_undo_31 : decode cX7_undo 31 = .ok (.ireturn, 1) := by decide +kernel
set_option maxRecDepth 20000 in
theorem ggX7_box_X7_isWithin : GoodIn wsX7_box wsX7_isWithin := goodIn_r _ [6] (by decide +kernel) (by decide +kernel)
set_option maxRecDepth 20000 in
theorem gX7_box_X7_isWithin : GoodIn wsX7_box (va_wsS RX7 69 yX7_isWithin wsX7_isWithin) := goodIn_app (goodIn_of _ (by decide +kernel)) ggX7_box_X7_isWithin
set_option maxRecDepth 20000 in
theorem ggX7_box_X0_howManyGoInto : GoodIn wsX7_box wsX0_howManyGoInto := goodIn_r _ [11, 12, 13, 14, 15, 16, 17, 18, 19, 20, 21, 22, 23, 24, 25, 26, 27, 28, 29, 30, 31, 32, 33, 34, 35, 10, 36, 37, 38, 39, 40, 41, 42, 43, 44, 45, 46, 47, 48, 49, 50, 51, 52, 53, 54, 55, 5, 56, 57, 58, 59, 60, 99, 100, 101, 102, 103, 104, 105, 106, 107, 108] (by decide +kernel) (by decide +kernel)
set_option maxRecDepth 20000 in
theorem gX7_box_X0_howManyGoInto : GoodIn wsX7_box (wsV RX7 177 RX0 yX0_howManyGoInto wsX0_howManyGoInto) := goodIn_app (goodIn_of _ (by decide +kernel)) ggX7_box_X0_howManyGoInto
set_option maxRecDepth 20000 in
theorem ggX7_box_X0_nearestFold : GoodIn wsX7_box wsX0_nearestFold := goodIn_r _ [64, 12, 13, 14, 15, 16, 17, 18, 19, 20, 21, 22, 23, 24, 25, 65, 66, 67, 68, 69, 70, 71, 26, 27, 28, 29, 30, 31, 32, 72, 73, 74, 10, 75, 37, 38, 39, 40, 41, 42, 43, 44, 45, 46, 47, 48, 49, 50, 51, 52, 53, 54, 55, 5, 56, 76, 77, 78, 79, 80, 81, 82, 83, 33, 34, 35, 36, 57, 58, 59, 60, 99, 100, 101, 102, 103, 104, 105, 106, 107, 108] (by decide +kernel) (by decide +kernel)
set_option maxRecDepth 20000 in
theorem gX7_box_X0_nearestFold : GoodIn wsX7_box (wsV RX7 181 RX0 yX0_nearestFold wsX0_nearestFold) := goodIn_app (goodIn_of _ (by decide +kernel)) ggX7_box_X0_nearestFold
set_option maxRecDepth 20000 in
theorem ggX7_box_X7_bentBy : GoodIn wsX7_box wsX7_bentBy := goodIn_r _ [87, 2, 88, 66, 67, 68, 69, 70, 71, 89, 90, 91, 92, 93, 94, 95, 96, 97, 98, 99, 100, 101, 102] (by decide +kernel) (by decide +kernel)
set_option maxRecDepth 20000 in
theorem gX7_box_X7_bentBy : GoodIn wsX7_box (wsV RX7 185 RX7 yX7_bentBy wsX7_bentBy) := goodIn_app (goodIn_of _ (by decide +kernel)) ggX7_box_X7_bentBy
theorem dX7_box_0 : decode cX7_box 0 = .ok (.iload_n 1, 1) := by decide +kernel
theorem dX7_box_1 : decode cX7_box 1 = .ok (.iconst 1, 1) := by decide +kernel
theorem dX7_box_2 : decode cX7_box 2 = .ok (.sipush 180, 3) := by decide +kernel
theorem dX7_box_5 : decode cX7_box 5 = .ok (.invokestatic 69, 3) := by decide +kernel
theorem dX7_box_8 : decode cX7_box 8 = .ok (.ifCond .ne 5, 3) := by decide +kernel
theorem dX7_box_11 : decode cX7_box 11 = .ok (.iconst (-1), 1) := by decide +kernel
theorem dX7_box_12 : decode cX7_box 12 = .ok (.ireturn, 1) := by decide +kernel
theorem dX7_box_13 : decode cX7_box 13 = .ok (.iload_n 2, 1) := by decide +kernel
theorem dX7_box_14 : decode cX7_box 14 = .ok (.tableswitch 71 0 2 #[26, 39, 53], 26) := by decide +kernel
theorem dX7_box_40 : decode cX7_box 40 = .ok (.aload_n 0, 1) := by decide +kernel
theorem dX7_box_41 : decode cX7_box 41 = .ok (.getfield 51, 3) := by decide +kernel
theorem dX7_box_44 : decode cX7_box 44 = .ok (.aload_n 0, 1) := by decide +kernel
theorem dX7_box_45 : decode cX7_box 45 = .ok (.getfield 19, 3) := by decide +kernel
theorem dX7_box_48 : decode cX7_box 48 = .ok (.iload_n 1, 1) := by decide +kernel
theorem dX7_box_49 : decode cX7_box 49 = .ok (.invokevirtual 177, 3) := by decide +kernel
theorem dX7_box_52 : decode cX7_box 52 = .ok (.ireturn, 1) := by decide +kernel
theorem dX7_box_53 : decode cX7_box 53 = .ok (.aload_n 0, 1) := by decide +kernel
theorem dX7_box_54 : decode cX7_box 54 = .ok (.getfield 51, 3) := by decide +kernel
theorem dX7_box_57 : decode cX7_box 57 = .ok (.aload_n 0, 1) := by decide +kernel
theorem dX7_box_58 : decode cX7_box 58 = .ok (.getfield 19, 3) := by decide +kernel
theorem dX7_box_61 : decode cX7_box 61 = .ok (.iload_n 1, 1) := by decide +kernel
theorem dX7_box_62 : decode cX7_box 62 = .ok (.iconst 0, 1) := by decide +kernel
theorem dX7_box_63 : decode cX7_box 63 = .ok (.invokevirtual 181, 3) := by decide +kernel
theorem dX7_box_66 : decode cX7_box 66 = .ok (.ireturn, 1) := by decide +kernel
theorem dX7_box_67 : decode cX7_box 67 = .ok (.aload_n 0, 1) := by decide +kernel
theorem dX7_box_68 : decode cX7_box 68 = .ok (.aload_n 0, 1) := by decide +kernel
theorem dX7_box_69 : decode cX7_box 69 = .ok (.getfield 51, 3) := by decide +kernel
theorem dX7_box_72 : decode cX7_box 72 = .ok (.aload_n 0, 1) := by decide +kernel
theorem dX7_box_73 : decode cX7_box 73 = .ok (.getfield 19, 3) := by decide +kernel
theorem dX7_box_76 : decode cX7_box 76 = .ok (.iload_n 1, 1) := by decide +kernel
theorem dX7_box_77 : decode cX7_box 77 = .ok (.iconst 0, 1) := by decide +kernel
theorem dX7_box_78 : decode cX7_box 78 = .ok (.invokevirtual 181, 3) := by decide +kernel
theorem dX7_box_81 : decode cX7_box 81 = .ok (.invokevirtual 185, 3) := by decide +kernel
theorem dX7_box_84 : decode cX7_box 84 = .ok (.ireturn, 1) := by decide +kernel
theorem dX7_box_85 : decode cX7_box 85 = .ok (.iconst (-1), 1) := by decide +kernel
theorem dX7_box_86 : decode cX7_box 86 = .ok (.ireturn, 1) := by decide +kernel
set_option maxRecDepth 20000 in
theorem ggX7_end_X7_isWithin : GoodIn wsX7_end wsX7_isWithin := goodIn_r _ [6] (by decide +kernel) (by decide +kernel)
set_option maxRecDepth 20000 in
theorem gX7_end_X7_isWithin : GoodIn wsX7_end (va_wsS RX7 69 yX7_isWithin wsX7_isWithin) := goodIn_app (goodIn_of _ (by decide +kernel)) ggX7_end_X7_isWithin
set_option maxRecDepth 20000 in
theorem ggX7_end_X0_nearestFold : GoodIn wsX7_end wsX0_nearestFold := goodIn_r _ [11, 12, 13, 14, 15, 16, 17, 18, 19, 20, 21, 22, 23, 24, 25, 26, 27, 28, 29, 30, 31, 32, 33, 34, 35, 36, 37, 38, 39, 40, 41, 42, 10, 43, 44, 45, 46, 47, 48, 49, 50, 51, 52, 53, 54, 55, 56, 57, 58, 59, 60, 61, 62, 5, 63, 64, 65, 66, 67, 68, 69, 70, 71, 72, 73, 74, 75, 76, 77, 78, 79, 90, 91, 92, 93, 94, 95, 96, 97, 98, 99] (by decide +kernel) (by decide +kernel)
set_option maxRecDepth 20000 in
theorem gX7_end_X0_nearestFold : GoodIn wsX7_end (wsV RX7 181 RX0 yX0_nearestFold wsX0_nearestFold) := goodIn_app (goodIn_of _ (by decide +kernel)) ggX7_end_X0_nearestFold
theorem dX7_end_0 : decode cX7_end 0 = .ok (.iload_n 1, 1) := by decide +kernel
theorem dX7_end_1 : decode cX7_end 1 = .ok (.sipush (-180), 3) := by decide +kernel
theorem dX7_end_4 : decode cX7_end 4 = .ok (.sipush 180, 3) := by decide +kernel
theorem dX7_end_7 : decode cX7_end 7 = .ok (.invokestatic 69, 3) := by decide +kernel
theorem dX7_end_10 : decode cX7_end 10 = .ok (.ifCond .ne 5, 3) := by decide +kernel
theorem dX7_end_13 : decode cX7_end 13 = .ok (.iconst (-1), 1) := by decide +kernel
theorem dX7_end_14 : decode cX7_end 14 = .ok (.ireturn, 1) := by decide +kernel
theorem dX7_end_15 : decode cX7_end 15 = .ok (.aload_n 0, 1) := by decide +kernel
theorem dX7_end_16 : decode cX7_end 16 = .ok (.getfield 51, 3) := by decide +kernel
theorem dX7_end_19 : decode cX7_end 19 = .ok (.aload_n 0, 1) := by decide +kernel
theorem dX7_end_20 : decode cX7_end 20 = .ok (.getfield 19, 3) := by decide +kernel
theorem dX7_end_23 : decode cX7_end 23 = .ok (.iload_n 1, 1) := by decide +kernel
theorem dX7_end_24 : decode cX7_end 24 = .ok (.iconst 1, 1) := by decide +kernel
theorem dX7_end_25 : decode cX7_end 25 = .ok (.invokevirtual 181, 3) := by decide +kernel
theorem dX7_end_28 : decode cX7_end 28 = .ok (.ireturn, 1) := by decide +kernel
set_option maxRecDepth 20000 in
theorem ggX7_measures_X7_isWithin : GoodIn wsX7_measures wsX7_isWithin := goodIn_r _ [6] (by decide +kernel) (by decide +kernel)
set_option maxRecDepth 20000 in
theorem gX7_measures_X7_isWithin : GoodIn wsX7_measures (va_wsS RX7 69 yX7_isWithin wsX7_isWithin) := goodIn_app (goodIn_of _ (by decide +kernel)) ggX7_measures_X7_isWithin
set_option maxRecDepth 20000 in
theorem ggX7_measures_X0_canMeasure : GoodIn wsX7_measures wsX0_canMeasure := goodIn_r _ [11, 12, 13, 14, 15, 10, 16, 17, 18, 19, 20, 21, 22, 23, 24, 25, 26, 27, 28, 29, 30, 31, 32, 33, 34, 35, 36, 37, 38, 39, 40, 41, 42, 43, 44, 45, 46, 47, 48, 49, 50, 51, 52, 53, 54, 55, 56, 5, 57, 58, 59, 60, 61, 62, 63, 64, 65, 66, 67, 68, 79, 80, 81, 82, 83, 84, 85, 86, 87, 88] (by decide +kernel) (by decide +kernel)
set_option maxRecDepth 20000 in
theorem gX7_measures_X0_canMeasure : GoodIn wsX7_measures (wsV RX7 188 RX0 yX0_canMeasure wsX0_canMeasure) := goodIn_app (goodIn_of _ (by decide +kernel)) ggX7_measures_X0_canMeasure
theorem dX7_measures_0 : decode cX7_measures 0 = .ok (.iload_n 1, 1) := by decide +kernel
theorem dX7_measures_1 : decode cX7_measures 1 = .ok (.iconst 1, 1) := by decide +kernel
theorem dX7_measures_2 : decode cX7_measures 2 = .ok (.sipush 180, 3) := by decide +kernel
theorem dX7_measures_5 : decode cX7_measures 5 = .ok (.invokestatic 69, 3) := by decide +kernel
theorem dX7_measures_8 : decode cX7_measures 8 = .ok (.ifCond .ne 5, 3) := by decide +kernel
theorem dX7_measures_11 : decode cX7_measures 11 = .ok (.iconst (-1), 1) := by decide +kernel
theorem dX7_measures_12 : decode cX7_measures 12 = .ok (.ireturn, 1) := by decide +kernel
theorem dX7_measures_13 : decode cX7_measures 13 = .ok (.aload_n 0, 1) := by decide +kernel
theorem dX7_measures_14 : decode cX7_measures 14 = .ok (.getfield 51, 3) := by decide +kernel
theorem dX7_measures_17 : decode cX7_measures 17 = .ok (.aload_n 0, 1) := by decide +kernel
theorem dX7_measures_18 : decode cX7_measures 18 = .ok (.getfield 19, 3) := by decide +kernel
theorem dX7_measures_21 : decode cX7_measures 21 = .ok (.iload_n 1, 1) := by decide +kernel
theorem dX7_measures_22 : decode cX7_measures 22 = .ok (.invokevirtual 188, 3) := by decide +kernel
theorem dX7_measures_25 : decode cX7_measures 25 = .ok (.ifCond .eq 7, 3) := by decide +kernel
theorem dX7_measures_28 : decode cX7_measures 28 = .ok (.iconst 1, 1) := by decide +kernel
theorem dX7_measures_29 : decode cX7_measures 29 = .ok (.goto 4, 3) := by decide +kernel
theorem dX7_measures_32 : decode cX7_measures 32 = .ok (.iconst 0, 1) := by decide +kernel
theorem dX7_measures_33 : decode cX7_measures 33 = .ok (.ireturn, 1) := by decide +kernel
set_option maxRecDepth 20000 in
theorem ggX7_odds_X7_isWithin : GoodIn wsX7_odds wsX7_isWithin := goodIn_r _ [6] (by decide +kernel) (by decide +kernel)
set_option maxRecDepth 20000 in
theorem gX7_odds_X7_isWithin : GoodIn wsX7_odds (va_wsS RX7 69 yX7_isWithin wsX7_isWithin) := goodIn_app (goodIn_of _ (by decide +kernel)) ggX7_odds_X7_isWithin
set_option maxRecDepth 20000 in
theorem ggX7_odds_X0_weightInto : GoodIn wsX7_odds wsX0_weightInto := goodIn_r _ [11, 12, 13, 14, 15, 16, 17, 18, 19, 20, 21, 22, 23, 24, 25, 26, 27, 28, 29, 30, 31, 32, 33, 34, 35, 10, 36, 37, 38, 39, 40, 41, 42, 43, 44, 45, 46, 47, 48, 49, 50, 51, 52, 53, 54, 55, 5, 56, 57, 58, 59, 60, 61, 62, 63, 64, 65, 66, 67, 68, 69, 70, 71, 72, 73, 74, 91, 92, 93, 94, 95, 96, 97, 98, 99, 100] (by decide +kernel) (by decide +kernel)
set_option maxRecDepth 20000 in
theorem gX7_odds_X0_weightInto : GoodIn wsX7_odds (wsV RX7 192 RX0 yX0_weightInto wsX0_weightInto) := goodIn_app (goodIn_of _ (by decide +kernel)) ggX7_odds_X0_weightInto
set_option maxRecDepth 20000 in
theorem ggX7_odds_X5_freeJoints : GoodIn wsX7_odds wsX5_freeJoints := goodIn_r _ [73, 31, 17, 18, 19, 15, 20, 21, 22, 23, 24, 25, 74, 62, 63, 64, 65, 66, 67, 91, 92, 93, 94] (by decide +kernel) (by decide +kernel)
set_option maxRecDepth 20000 in
theorem gX7_odds_X5_freeJoints : GoodIn wsX7_odds (wsV RX7 196 RX5 yX5_freeJoints wsX5_freeJoints) := goodIn_app (goodIn_of _ (by decide +kernel)) ggX7_odds_X5_freeJoints
set_option maxRecDepth 20000 in
theorem ggX7_odds_X7_power : GoodIn wsX7_odds wsX7_power := goodIn_r _ [69] (by decide +kernel) (by decide +kernel)
set_option maxRecDepth 20000 in
theorem gX7_odds_X7_power : GoodIn wsX7_odds (va_wsS RX7 199 yX7_power wsX7_power) := goodIn_app (goodIn_of _ (by decide +kernel)) ggX7_odds_X7_power
set_option maxRecDepth 20000 in
theorem ggX7_odds_X7_commonDivisor : GoodIn wsX7_odds wsX7_commonDivisor := goodIn_r _ [79, 80, 23, 24, 25] (by decide +kernel) (by decide +kernel)
set_option maxRecDepth 20000 in
theorem gX7_odds_X7_commonDivisor : GoodIn wsX7_odds (va_wsS RX7 203 yX7_commonDivisor wsX7_commonDivisor) := goodIn_app (goodIn_of _ (by decide +kernel)) ggX7_odds_X7_commonDivisor
theorem dX7_odds_0 : decode cX7_odds 0 = .ok (.iload_n 1, 1) := by decide +kernel
theorem dX7_odds_1 : decode cX7_odds 1 = .ok (.iconst 0, 1) := by decide +kernel
theorem dX7_odds_2 : decode cX7_odds 2 = .ok (.bipush 10, 2) := by decide +kernel
theorem dX7_odds_4 : decode cX7_odds 4 = .ok (.invokestatic 69, 3) := by decide +kernel
theorem dX7_odds_7 : decode cX7_odds 7 = .ok (.ifCond .eq 23, 3) := by decide +kernel
theorem dX7_odds_10 : decode cX7_odds 10 = .ok (.iload_n 2, 1) := by decide +kernel
theorem dX7_odds_11 : decode cX7_odds 11 = .ok (.iconst 1, 1) := by decide +kernel
theorem dX7_odds_12 : decode cX7_odds 12 = .ok (.sipush 180, 3) := by decide +kernel
theorem dX7_odds_15 : decode cX7_odds 15 = .ok (.invokestatic 69, 3) := by decide +kernel
theorem dX7_odds_18 : decode cX7_odds 18 = .ok (.ifCond .eq 12, 3) := by decide +kernel
theorem dX7_odds_21 : decode cX7_odds 21 = .ok (.iload_n 3, 1) := by decide +kernel
theorem dX7_odds_22 : decode cX7_odds 22 = .ok (.iconst 0, 1) := by decide +kernel
theorem dX7_odds_23 : decode cX7_odds 23 = .ok (.iconst 1, 1) := by decide +kernel
theorem dX7_odds_24 : decode cX7_odds 24 = .ok (.invokestatic 69, 3) := by decide +kernel
theorem dX7_odds_27 : decode cX7_odds 27 = .ok (.ifCond .ne 5, 3) := by decide +kernel
theorem dX7_odds_30 : decode cX7_odds 30 = .ok (.iconst (-1), 1) := by decide +kernel
theorem dX7_odds_31 : decode cX7_odds 31 = .ok (.ireturn, 1) := by decide +kernel
theorem dX7_odds_32 : decode cX7_odds 32 = .ok (.aload_n 0, 1) := by decide +kernel
theorem dX7_odds_33 : decode cX7_odds 33 = .ok (.getfield 51, 3) := by decide +kernel
theorem dX7_odds_36 : decode cX7_odds 36 = .ok (.aload_n 0, 1) := by decide +kernel
theorem dX7_odds_37 : decode cX7_odds 37 = .ok (.getfield 19, 3) := by decide +kernel
theorem dX7_odds_40 : decode cX7_odds 40 = .ok (.iload_n 1, 1) := by decide +kernel
theorem dX7_odds_41 : decode cX7_odds 41 = .ok (.iload_n 2, 1) := by decide +kernel
theorem dX7_odds_42 : decode cX7_odds 42 = .ok (.invokevirtual 192, 3) := by decide +kernel
theorem dX7_odds_45 : decode cX7_odds 45 = .ok (.istore 4, 2) := by decide +kernel
theorem dX7_odds_47 : decode cX7_odds 47 = .ok (.bipush 10, 2) := by decide +kernel
theorem dX7_odds_49 : decode cX7_odds 49 = .ok (.aload_n 0, 1) := by decide +kernel
theorem dX7_odds_50 : decode cX7_odds 50 = .ok (.getfield 19, 3) := by decide +kernel
theorem dX7_odds_53 : decode cX7_odds 53 = .ok (.invokevirtual 196, 3) := by decide +kernel
theorem dX7_odds_56 : decode cX7_odds 56 = .ok (.invokestatic 199, 3) := by decide +kernel
theorem dX7_odds_59 : decode cX7_odds 59 = .ok (.istore 5, 2) := by decide +kernel
theorem dX7_odds_61 : decode cX7_odds 61 = .ok (.iload 4, 2) := by decide +kernel
theorem dX7_odds_63 : decode cX7_odds 63 = .ok (.iload 5, 2) := by decide +kernel
theorem dX7_odds_65 : decode cX7_odds 65 = .ok (.invokestatic 203, 3) := by decide +kernel
theorem dX7_odds_68 : decode cX7_odds 68 = .ok (.istore 6, 2) := by decide +kernel
theorem dX7_odds_70 : decode cX7_odds 70 = .ok (.iload_n 3, 1) := by decide +kernel
theorem dX7_odds_71 : decode cX7_odds 71 = .ok (.ifCond .ne 8, 3) := by decide +kernel
theorem dX7_odds_74 : decode cX7_odds 74 = .ok (.iload 4, 2) := by decide +kernel
theorem dX7_odds_76 : decode cX7_odds 76 = .ok (.goto 5, 3) := by decide +kernel
theorem dX7_odds_79 : decode cX7_odds 79 = .ok (.iload 5, 2) := by decide +kernel
theorem dX7_odds_81 : decode cX7_odds 81 = .ok (.iload 6, 2) := by decide +kernel
theorem dX7_odds_83 : decode cX7_odds 83 = .ok (.idiv, 1) := by decide +kernel
theorem dX7_odds_84 : decode cX7_odds 84 = .ok (.ireturn, 1) := by decide +kernel
set_option maxRecDepth 20000 in
theorem ggX7_sees_X5_isFold : GoodIn wsX7_sees wsX5_isFold := goodIn_r _ [7, 8, 9, 10, 11, 12, 6, 13, 14, 15, 16, 17, 18, 19, 20, 21, 22, 56, 57, 58, 59] (by decide +kernel) (by decide +kernel)
set_option maxRecDepth 20000 in
theorem gX7_sees_X5_isFold : GoodIn wsX7_sees (wsV RX7 206 RX5 yX5_isFold wsX5_isFold) := goodIn_app (goodIn_of _ (by decide +kernel)) ggX7_sees_X5_isFold
set_option maxRecDepth 20000 in
theorem ggX7_sees_X7_isWithin : GoodIn wsX7_sees wsX7_isWithin := goodIn_r _ [26] (by decide +kernel) (by decide +kernel)
set_option maxRecDepth 20000 in
theorem gX7_sees_X7_isWithin : GoodIn wsX7_sees (va_wsS RX7 69 yX7_isWithin wsX7_isWithin) := goodIn_app (goodIn_of _ (by decide +kernel)) ggX7_sees_X7_isWithin
set_option maxRecDepth 20000 in
theorem ggX7_sees_X4_isFull : GoodIn wsX7_sees wsX4_isFull := goodIn_r _ [31, 32, 50, 51, 52, 53, 54, 55] (by decide +kernel) (by decide +kernel)
set_option maxRecDepth 20000 in
theorem gX7_sees_X4_isFull : GoodIn wsX7_sees (wsV RX7 209 RX4 yX4_isFull wsX4_isFull) := goodIn_app (goodIn_of _ (by decide +kernel)) ggX7_sees_X4_isFull
set_option maxRecDepth 20000 in
theorem ggX7_sees_X4_note : GoodIn wsX7_sees wsX4_note := goodIn_r _ [36, 37, 32, 38, 39, 28, 29, 30, 31, 50, 51, 52, 53, 54, 55] (by decide +kernel) (by decide +kernel)
set_option maxRecDepth 20000 in
theorem gX7_sees_X4_note : GoodIn wsX7_sees (wsV RX7 210 RX4 yX4_note wsX4_note) := goodIn_app (goodIn_of _ (by decide +kernel)) ggX7_sees_X4_note
theorem dX7_sees_0 : decode cX7_sees 0 = .ok (.aload_n 0, 1) := by decide +kernel
theorem dX7_sees_1 : decode cX7_sees 1 = .ok (.getfield 19, 3) := by decide +kernel
theorem dX7_sees_4 : decode cX7_sees 4 = .ok (.iload_n 1, 1) := by decide +kernel
theorem dX7_sees_5 : decode cX7_sees 5 = .ok (.invokevirtual 206, 3) := by decide +kernel
theorem dX7_sees_8 : decode cX7_sees 8 = .ok (.ifCond .eq 14, 3) := by decide +kernel
theorem dX7_sees_11 : decode cX7_sees 11 = .ok (.iload_n 2, 1) := by decide +kernel
theorem dX7_sees_12 : decode cX7_sees 12 = .ok (.iconst 0, 1) := by decide +kernel
theorem dX7_sees_13 : decode cX7_sees 13 = .ok (.sipush 180, 3) := by decide +kernel
theorem dX7_sees_16 : decode cX7_sees 16 = .ok (.invokestatic 69, 3) := by decide +kernel
theorem dX7_sees_19 : decode cX7_sees 19 = .ok (.ifCond .ne 5, 3) := by decide +kernel
theorem dX7_sees_22 : decode cX7_sees 22 = .ok (.iconst (-1), 1) := by decide +kernel
theorem dX7_sees_23 : decode cX7_sees 23 = .ok (.ireturn, 1) := by decide +kernel
theorem dX7_sees_24 : decode cX7_sees 24 = .ok (.aload_n 0, 1) := by decide +kernel
theorem dX7_sees_25 : decode cX7_sees 25 = .ok (.getfield 58, 3) := by decide +kernel
theorem dX7_sees_28 : decode cX7_sees 28 = .ok (.invokevirtual 209, 3) := by decide +kernel
theorem dX7_sees_31 : decode cX7_sees 31 = .ok (.ifCond .eq 6, 3) := by decide +kernel
theorem dX7_sees_34 : decode cX7_sees 34 = .ok (.bipush (-3), 2) := by decide +kernel
theorem dX7_sees_36 : decode cX7_sees 36 = .ok (.ireturn, 1) := by decide +kernel
theorem dX7_sees_37 : decode cX7_sees 37 = .ok (.aload_n 0, 1) := by decide +kernel
theorem dX7_sees_38 : decode cX7_sees 38 = .ok (.getfield 58, 3) := by decide +kernel
theorem dX7_sees_41 : decode cX7_sees 41 = .ok (.iload_n 1, 1) := by decide +kernel
theorem dX7_sees_42 : decode cX7_sees 42 = .ok (.iload_n 2, 1) := by decide +kernel
theorem dX7_sees_43 : decode cX7_sees 43 = .ok (.invokevirtual 210, 3) := by decide +kernel
theorem dX7_sees_46 : decode cX7_sees 46 = .ok (.aload_n 0, 1) := by decide +kernel
theorem dX7_sees_47 : decode cX7_sees 47 = .ok (.getfield 58, 3) := by decide +kernel
theorem dX7_sees_50 : decode cX7_sees 50 = .ok (.getfield 213, 3) := by decide +kernel
theorem dX7_sees_53 : decode cX7_sees 53 = .ok (.ireturn, 1) := by decide +kernel
set_option maxRecDepth 20000 in
theorem ggX7_forget_X4_loseAll : GoodIn wsX7_forget wsX4_loseAll := goodIn_r _ [6, 7, 18, 19, 20, 21, 22, 23] (by decide +kernel) (by decide +kernel)
set_option maxRecDepth 20000 in
theorem gX7_forget_X4_loseAll : GoodIn wsX7_forget (wsV RX7 99 RX4 yX4_loseAll wsX4_loseAll) := goodIn_app (goodIn_of _ (by decide +kernel)) ggX7_forget_X4_loseAll
theorem dX7_forget_0 : decode cX7_forget 0 = .ok (.aload_n 0, 1) := by decide +kernel
theorem dX7_forget_1 : decode cX7_forget 1 = .ok (.getfield 58, 3) := by decide +kernel
theorem dX7_forget_4 : decode cX7_forget 4 = .ok (.getfield 213, 3) := by decide +kernel
theorem dX7_forget_7 : decode cX7_forget 7 = .ok (.istore_n 1, 1) := by decide +kernel
theorem dX7_forget_8 : decode cX7_forget 8 = .ok (.aload_n 0, 1) := by decide +kernel
theorem dX7_forget_9 : decode cX7_forget 9 = .ok (.getfield 58, 3) := by decide +kernel
theorem dX7_forget_12 : decode cX7_forget 12 = .ok (.invokevirtual 99, 3) := by decide +kernel
theorem dX7_forget_15 : decode cX7_forget 15 = .ok (.iload_n 1, 1) := by decide +kernel
theorem dX7_forget_16 : decode cX7_forget 16 = .ok (.ireturn, 1) := by decide +kernel
set_option maxRecDepth 20000 in
theorem ggX7_ways_X4_findWays : GoodIn wsX7_ways wsX4_findWays := goodIn_r _ [7, 8, 9, 10, 11, 12, 13, 14, 15, 16, 17, 18, 19, 20, 21, 22, 23, 24, 25, 26, 6, 27, 28, 29, 30, 31, 32, 33, 34, 35, 36, 37, 38, 39, 40, 41, 42, 43, 44, 45, 46, 47, 48, 49, 50, 51, 52, 53, 54, 70, 71, 72, 73, 74, 75, 76, 77, 78, 79, 80, 81, 82, 83] (by decide +kernel) (by decide +kernel)
set_option maxRecDepth 20000 in
theorem gX7_ways_X4_findWays : GoodIn wsX7_ways (wsV RX7 214 RX4 yX4_findWays wsX4_findWays) := goodIn_app (goodIn_of _ (by decide +kernel)) ggX7_ways_X4_findWays
set_option maxRecDepth 20000 in
theorem ggX7_ways_X4_firstWay : GoodIn wsX7_ways wsX4_firstWay := goodIn_r _ [58, 8, 59, 4, 5, 6, 7, 9, 10, 11, 12, 13, 14, 15, 16, 17, 18, 19, 20, 21, 22, 23, 24, 25, 26, 27, 28, 29, 30, 31, 32, 33, 34, 35, 36, 37, 38, 39, 40, 41, 42, 43, 44, 45, 46, 47, 48, 49, 50, 51, 52, 53, 54, 70, 71, 72, 73, 74, 75, 76, 77, 78, 79, 80, 81, 82, 83] (by decide +kernel) (by decide +kernel)
set_option maxRecDepth 20000 in
theorem gX7_ways_X4_firstWay : GoodIn wsX7_ways (wsV RX7 217 RX4 yX4_firstWay wsX4_firstWay) := goodIn_app (goodIn_of _ (by decide +kernel)) ggX7_ways_X4_firstWay
theorem dX7_ways_0 : decode cX7_ways 0 = .ok (.iload_n 1, 1) := by decide +kernel
theorem dX7_ways_1 : decode cX7_ways 1 = .ok (.lookupswitch 51 #[(0, 27), (1, 39)], 27) := by decide +kernel
theorem dX7_ways_28 : decode cX7_ways 28 = .ok (.aload_n 0, 1) := by decide +kernel
theorem dX7_ways_29 : decode cX7_ways 29 = .ok (.getfield 58, 3) := by decide +kernel
theorem dX7_ways_32 : decode cX7_ways 32 = .ok (.aload_n 0, 1) := by decide +kernel
theorem dX7_ways_33 : decode cX7_ways 33 = .ok (.getfield 19, 3) := by decide +kernel
theorem dX7_ways_36 : decode cX7_ways 36 = .ok (.invokevirtual 214, 3) := by decide +kernel
theorem dX7_ways_39 : decode cX7_ways 39 = .ok (.ireturn, 1) := by decide +kernel
theorem dX7_ways_40 : decode cX7_ways 40 = .ok (.aload_n 0, 1) := by decide +kernel
theorem dX7_ways_41 : decode cX7_ways 41 = .ok (.getfield 58, 3) := by decide +kernel
theorem dX7_ways_44 : decode cX7_ways 44 = .ok (.aload_n 0, 1) := by decide +kernel
theorem dX7_ways_45 : decode cX7_ways 45 = .ok (.getfield 19, 3) := by decide +kernel
theorem dX7_ways_48 : decode cX7_ways 48 = .ok (.invokevirtual 217, 3) := by decide +kernel
theorem dX7_ways_51 : decode cX7_ways 51 = .ok (.ireturn, 1) := by decide +kernel
theorem dX7_ways_52 : decode cX7_ways 52 = .ok (.iconst (-1), 1) := by decide +kernel
theorem dX7_ways_53 : decode cX7_ways 53 = .ok (.ireturn, 1) := by decide +kernel
set_option maxRecDepth 20000 in
theorem ggX7_next_X4_bestTry : GoodIn wsX7_next wsX4_bestTry := goodIn_r _ [7, 8, 9, 10, 6, 11, 12, 13, 14, 15, 16, 17, 18, 19, 20, 21, 22, 23, 24, 25, 26, 27, 28, 29, 30, 31, 32, 33, 34, 35, 36, 37, 38, 39, 40, 41, 42, 43, 44, 45, 46, 47, 48, 49, 50, 51, 52, 53, 54, 55, 56, 57, 58, 59, 60, 61, 62, 63, 64, 65, 66, 67, 68, 69, 70, 71, 72, 73, 74, 75, 76, 77, 78, 79, 80, 81, 82, 83, 84, 85, 86, 97, 98, 99, 100, 101, 102, 103, 104, 105, 106, 107, 108, 109, 110] (by decide +kernel) (by decide +kernel)
set_option maxRecDepth 20000 in
theorem gX7_next_X4_bestTry : GoodIn wsX7_next (wsV RX7 220 RX4 yX4_bestTry wsX4_bestTry) := goodIn_app (goodIn_of _ (by decide +kernel)) ggX7_next_X4_bestTry
theorem dX7_next_0 : decode cX7_next 0 = .ok (.aload_n 0, 1) := by decide +kernel
theorem dX7_next_1 : decode cX7_next 1 = .ok (.getfield 58, 3) := by decide +kernel
theorem dX7_next_4 : decode cX7_next 4 = .ok (.aload_n 0, 1) := by decide +kernel
theorem dX7_next_5 : decode cX7_next 5 = .ok (.getfield 19, 3) := by decide +kernel
theorem dX7_next_8 : decode cX7_next 8 = .ok (.invokevirtual 220, 3) := by decide +kernel
theorem dX7_next_11 : decode cX7_next 11 = .ok (.ireturn, 1) := by decide +kernel
set_option maxRecDepth 20000 in
theorem ggX7_rate_X7_isWithin : GoodIn wsX7_rate wsX7_isWithin := goodIn_r _ [7] (by decide +kernel) (by decide +kernel)
set_option maxRecDepth 20000 in
theorem gX7_rate_X7_isWithin : GoodIn wsX7_rate (va_wsS RX7 69 yX7_isWithin wsX7_isWithin) := goodIn_app (goodIn_of _ (by decide +kernel)) ggX7_rate_X7_isWithin
set_option maxRecDepth 20000 in
theorem ggX7_rate_X5_hasLink : GoodIn wsX7_rate wsX5_hasLink := goodIn_r _ [12, 13, 118, 119, 120, 121] (by decide +kernel) (by decide +kernel)
set_option maxRecDepth 20000 in
theorem gX7_rate_X5_hasLink : GoodIn wsX7_rate (wsV RX7 103 RX5 yX5_hasLink wsX5_hasLink) := goodIn_app (goodIn_of _ (by decide +kernel)) ggX7_rate_X5_hasLink
set_option maxRecDepth 20000 in
theorem ggX7_rate_X7_layNow : GoodIn wsX7_rate wsX7_layNow := goodIn_r _ [17, 18, 1, 19, 20, 21, 22, 23, 24, 25, 26, 27, 28, 29, 30, 31, 32, 33, 34, 35, 36, 37, 38, 39, 6, 40, 108, 109, 110, 111, 112, 113, 114, 115, 116, 117, 118, 119, 120, 121, 122, 123, 124, 125] (by decide +kernel) (by decide +kernel)
set_option maxRecDepth 20000 in
theorem gX7_rate_X7_layNow : GoodIn wsX7_rate (wsV RX7 111 RX7 yX7_layNow wsX7_layNow) := goodIn_app (goodIn_of _ (by decide +kernel)) ggX7_rate_X7_layNow
set_option maxRecDepth 20000 in
theorem ggX7_rate_X3_rateAs : GoodIn wsX7_rate wsX3_rateAs := goodIn_r _ [45, 46, 47, 48, 49, 44, 50, 51, 52, 53, 54, 11, 55, 56, 57, 9, 10, 12, 13, 58, 59, 60, 61, 62, 63, 64, 65, 22, 66, 32, 35, 67, 68, 69, 70, 71, 72, 73, 74, 75, 34, 33, 76, 77, 78, 79, 80, 81, 82, 83, 84, 85, 86, 87, 88, 89, 90, 91, 92, 93, 94, 36, 37, 30, 38, 95, 96, 97, 98, 28, 29, 31, 99, 100, 101, 102, 103, 104, 105, 106, 107, 126, 118, 119, 120, 121, 122, 123, 124, 125] (by decide +kernel) (by decide +kernel)
set_option maxRecDepth 20000 in
theorem gX7_rate_X3_rateAs : GoodIn wsX7_rate (wsV RX7 223 RX3 yX3_rateAs wsX3_rateAs) := goodIn_app (goodIn_of _ (by decide +kernel)) ggX7_rate_X3_rateAs
theorem dX7_rate_0 : decode cX7_rate 0 = .ok (.iload_n 1, 1) := by decide +kernel
theorem dX7_rate_1 : decode cX7_rate 1 = .ok (.iconst 0, 1) := by decide +kernel
theorem dX7_rate_2 : decode cX7_rate 2 = .ok (.iconst 5, 1) := by decide +kernel
theorem dX7_rate_3 : decode cX7_rate 3 = .ok (.invokestatic 69, 3) := by decide +kernel
theorem dX7_rate_6 : decode cX7_rate 6 = .ok (.ifCond .eq 14, 3) := by decide +kernel
theorem dX7_rate_9 : decode cX7_rate 9 = .ok (.aload_n 0, 1) := by decide +kernel
theorem dX7_rate_10 : decode cX7_rate 10 = .ok (.getfield 19, 3) := by decide +kernel
theorem dX7_rate_13 : decode cX7_rate 13 = .ok (.iload_n 2, 1) := by decide +kernel
theorem dX7_rate_14 : decode cX7_rate 14 = .ok (.invokevirtual 103, 3) := by decide +kernel
theorem dX7_rate_17 : decode cX7_rate 17 = .ok (.ifCond .ne 6, 3) := by decide +kernel
theorem dX7_rate_20 : decode cX7_rate 20 = .ok (.ldc 134, 2) := by decide +kernel
theorem dX7_rate_22 : decode cX7_rate 22 = .ok (.ireturn, 1) := by decide +kernel
theorem dX7_rate_23 : decode cX7_rate 23 = .ok (.aload_n 0, 1) := by decide +kernel
theorem dX7_rate_24 : decode cX7_rate 24 = .ok (.getfield 65, 3) := by decide +kernel
theorem dX7_rate_27 : decode cX7_rate 27 = .ok (.iload_n 1, 1) := by decide +kernel
theorem dX7_rate_28 : decode cX7_rate 28 = .ok (.aload_n 0, 1) := by decide +kernel
theorem dX7_rate_29 : decode cX7_rate 29 = .ok (.getfield 19, 3) := by decide +kernel
theorem dX7_rate_32 : decode cX7_rate 32 = .ok (.aload_n 0, 1) := by decide +kernel
theorem dX7_rate_33 : decode cX7_rate 33 = .ok (.invokevirtual 111, 3) := by decide +kernel
theorem dX7_rate_36 : decode cX7_rate 36 = .ok (.iload_n 2, 1) := by decide +kernel
theorem dX7_rate_37 : decode cX7_rate 37 = .ok (.invokevirtual 223, 3) := by decide +kernel
theorem dX7_rate_40 : decode cX7_rate 40 = .ok (.ireturn, 1) := by decide +kernel
set_option maxRecDepth 20000 in
theorem ggX7_keep_X7_isWithin : GoodIn wsX7_keep wsX7_isWithin := goodIn_r _ [7] (by decide +kernel) (by decide +kernel)
set_option maxRecDepth 20000 in
theorem gX7_keep_X7_isWithin : GoodIn wsX7_keep (va_wsS RX7 69 yX7_isWithin wsX7_isWithin) := goodIn_app (goodIn_of _ (by decide +kernel)) ggX7_keep_X7_isWithin
set_option maxRecDepth 20000 in
theorem ggX7_keep_X5_copyFrom : GoodIn wsX7_keep wsX5_copyFrom := goodIn_r _ [12, 13, 14, 15, 16, 62, 63, 64, 65] (by decide +kernel) (by decide +kernel)
set_option maxRecDepth 20000 in
theorem gX7_keep_X5_copyFrom : GoodIn wsX7_keep (wsV RX7 92 RX5 yX5_copyFrom wsX5_copyFrom) := goodIn_app (goodIn_of _ (by decide +kernel)) ggX7_keep_X5_copyFrom
set_option maxRecDepth 20000 in
theorem ggX7_keep_X7_spanNow : GoodIn wsX7_keep wsX7_spanNow := goodIn_r _ [20, 21, 22, 23, 6, 24, 25, 2, 26, 27, 28, 29, 30, 31, 32, 33, 34, 35, 36, 37, 38, 39, 40, 41, 42, 43, 44, 45, 46, 47, 48, 49, 50, 51, 52, 53, 54, 55, 56, 57, 58, 59, 60, 61, 62, 63, 64, 65, 66, 67, 68, 69] (by decide +kernel) (by decide +kernel)
set_option maxRecDepth 20000 in
theorem gX7_keep_X7_spanNow : GoodIn wsX7_keep (wsV RX7 138 RX7 yX7_spanNow wsX7_spanNow) := goodIn_app (goodIn_of _ (by decide +kernel)) ggX7_keep_X7_spanNow
theorem dX7_keep_0 : decode cX7_keep 0 = .ok (.iload_n 1, 1) := by decide +kernel
theorem dX7_keep_1 : decode cX7_keep 1 = .ok (.iconst 0, 1) := by decide +kernel
theorem dX7_keep_2 : decode cX7_keep 2 = .ok (.iconst 1, 1) := by decide +kernel
theorem dX7_keep_3 : decode cX7_keep 3 = .ok (.invokestatic 69, 3) := by decide +kernel
theorem dX7_keep_6 : decode cX7_keep 6 = .ok (.ifCond .ne 5, 3) := by decide +kernel
theorem dX7_keep_9 : decode cX7_keep 9 = .ok (.iconst (-1), 1) := by decide +kernel
theorem dX7_keep_10 : decode cX7_keep 10 = .ok (.ireturn, 1) := by decide +kernel
theorem dX7_keep_11 : decode cX7_keep 11 = .ok (.aload_n 0, 1) := by decide +kernel
theorem dX7_keep_12 : decode cX7_keep 12 = .ok (.getfield 26, 3) := by decide +kernel
theorem dX7_keep_15 : decode cX7_keep 15 = .ok (.iload_n 1, 1) := by decide +kernel
theorem dX7_keep_16 : decode cX7_keep 16 = .ok (.aaload, 1) := by decide +kernel
theorem dX7_keep_17 : decode cX7_keep 17 = .ok (.aload_n 0, 1) := by decide +kernel
theorem dX7_keep_18 : decode cX7_keep 18 = .ok (.getfield 19, 3) := by decide +kernel
theorem dX7_keep_21 : decode cX7_keep 21 = .ok (.invokevirtual 92, 3) := by decide +kernel
theorem dX7_keep_24 : decode cX7_keep 24 = .ok (.aload_n 0, 1) := by decide +kernel
theorem dX7_keep_25 : decode cX7_keep 25 = .ok (.getfield 30, 3) := by decide +kernel
theorem dX7_keep_28 : decode cX7_keep 28 = .ok (.iload_n 1, 1) := by decide +kernel
theorem dX7_keep_29 : decode cX7_keep 29 = .ok (.iconst 1, 1) := by decide +kernel
theorem dX7_keep_30 : decode cX7_keep 30 = .ok (.bastore, 1) := by decide +kernel
theorem dX7_keep_31 : decode cX7_keep 31 = .ok (.aload_n 0, 1) := by decide +kernel
theorem dX7_keep_32 : decode cX7_keep 32 = .ok (.invokevirtual 138, 3) := by decide +kernel
theorem dX7_keep_35 : decode cX7_keep 35 = .ok (.ireturn, 1) := by decide +kernel
set_option maxRecDepth 20000 in
theorem ggX7_back_X7_isWithin : GoodIn wsX7_back wsX7_isWithin := goodIn_r _ [8] (by decide +kernel) (by decide +kernel)
set_option maxRecDepth 20000 in
theorem gX7_back_X7_isWithin : GoodIn wsX7_back (va_wsS RX7 69 yX7_isWithin wsX7_isWithin) := goodIn_app (goodIn_of _ (by decide +kernel)) ggX7_back_X7_isWithin
set_option maxRecDepth 20000 in
theorem ggX7_back_X5_copyFrom : GoodIn wsX7_back wsX5_copyFrom := goodIn_r _ [13, 14, 15, 16, 17, 69, 70, 71, 72] (by decide +kernel) (by decide +kernel)
set_option maxRecDepth 20000 in
theorem gX7_back_X5_copyFrom : GoodIn wsX7_back (wsV RX7 92 RX5 yX5_copyFrom wsX5_copyFrom) := goodIn_app (goodIn_of _ (by decide +kernel)) ggX7_back_X5_copyFrom
set_option maxRecDepth 20000 in
theorem ggX7_back_X1_loseAll : GoodIn wsX7_back wsX1_loseAll := goodIn_r _ [22, 23, 73, 74, 75] (by decide +kernel) (by decide +kernel)
set_option maxRecDepth 20000 in
theorem gX7_back_X1_loseAll : GoodIn wsX7_back (wsV RX7 96 RX1 yX1_loseAll wsX1_loseAll) := goodIn_app (goodIn_of _ (by decide +kernel)) ggX7_back_X1_loseAll
set_option maxRecDepth 20000 in
theorem ggX7_back_X7_spanNow : GoodIn wsX7_back wsX7_spanNow := goodIn_r _ [27, 28, 29, 30, 7, 31, 32, 2, 33, 34, 35, 36, 37, 38, 39, 40, 41, 42, 43, 44, 45, 46, 47, 48, 49, 50, 51, 52, 53, 54, 55, 56, 57, 58, 59, 60, 61, 62, 63, 64, 65, 66, 67, 68, 69, 70, 71, 72, 76, 77, 78, 79] (by decide +kernel) (by decide +kernel)
set_option maxRecDepth 20000 in
theorem gX7_back_X7_spanNow : GoodIn wsX7_back (wsV RX7 138 RX7 yX7_spanNow wsX7_spanNow) := goodIn_app (goodIn_of _ (by decide +kernel)) ggX7_back_X7_spanNow
theorem dX7_back_0 : decode cX7_back 0 = .ok (.iload_n 1, 1) := by decide +kernel
theorem dX7_back_1 : decode cX7_back 1 = .ok (.iconst 0, 1) := by decide +kernel
theorem dX7_back_2 : decode cX7_back 2 = .ok (.iconst 1, 1) := by decide +kernel
theorem dX7_back_3 : decode cX7_back 3 = .ok (.invokestatic 69, 3) := by decide +kernel
theorem dX7_back_6 : decode cX7_back 6 = .ok (.ifCond .ne 5, 3) := by decide +kernel
theorem dX7_back_9 : decode cX7_back 9 = .ok (.iconst (-1), 1) := by decide +kernel
theorem dX7_back_10 : decode cX7_back 10 = .ok (.ireturn, 1) := by decide +kernel
theorem dX7_back_11 : decode cX7_back 11 = .ok (.aload_n 0, 1) := by decide +kernel
theorem dX7_back_12 : decode cX7_back 12 = .ok (.getfield 30, 3) := by decide +kernel
