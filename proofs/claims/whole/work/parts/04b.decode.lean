theorem dX9_openNode_25 : decode cX9_openNode 25 = .ok (.iload_n 1, 1) := by decide +kernel
theorem dX9_openNode_26 : decode cX9_openNode 26 = .ok (.iload_n 3, 1) := by decide +kernel
theorem dX9_openNode_27 : decode cX9_openNode 27 = .ok (.iastore, 1) := by decide +kernel
theorem dX9_openNode_28 : decode cX9_openNode 28 = .ok (.iload_n 3, 1) := by decide +kernel
theorem dX9_openNode_29 : decode cX9_openNode 29 = .ok (.iconst (-1), 1) := by decide +kernel
theorem dX9_openNode_30 : decode cX9_openNode 30 = .ok (.if_icmp .eq 13, 3) := by decide +kernel
theorem dX9_openNode_33 : decode cX9_openNode 33 = .ok (.aload_n 0, 1) := by decide +kernel
theorem dX9_openNode_34 : decode cX9_openNode 34 = .ok (.getfield 37, 3) := by decide +kernel
theorem dX9_openNode_37 : decode cX9_openNode 37 = .ok (.iload_n 3, 1) := by decide +kernel
theorem dX9_openNode_38 : decode cX9_openNode 38 = .ok (.dup2, 1) := by decide +kernel
theorem dX9_openNode_39 : decode cX9_openNode 39 = .ok (.iaload, 1) := by decide +kernel
theorem dX9_openNode_40 : decode cX9_openNode 40 = .ok (.iconst 1, 1) := by decide +kernel
theorem dX9_openNode_41 : decode cX9_openNode 41 = .ok (.iadd, 1) := by decide +kernel
theorem dX9_openNode_42 : decode cX9_openNode 42 = .ok (.iastore, 1) := by decide +kernel
theorem dX9_openNode_43 : decode cX9_openNode 43 = .ok (.return_, 1) := by decide +kernel
theorem dX9_addKey_0 : decode cX9_addKey 0 = .ok (.aload_n 0, 1) := by decide +kernel
theorem dX9_addKey_1 : decode cX9_addKey 1 = .ok (.getfield 28, 3) := by decide +kernel
theorem dX9_addKey_4 : decode cX9_addKey 4 = .ok (.iload_n 1, 1) := by decide +kernel
theorem dX9_addKey_5 : decode cX9_addKey 5 = .ok (.iaload, 1) := by decide +kernel
theorem dX9_addKey_6 : decode cX9_addKey 6 = .ok (.ifCond .ne 10, 3) := by decide +kernel
theorem dX9_addKey_9 : decode cX9_addKey 9 = .ok (.aload_n 0, 1) := by decide +kernel
theorem dX9_addKey_10 : decode cX9_addKey 10 = .ok (.getfield 31, 3) := by decide +kernel
theorem dX9_addKey_13 : decode cX9_addKey 13 = .ok (.iload_n 1, 1) := by decide +kernel
theorem dX9_addKey_14 : decode cX9_addKey 14 = .ok (.iload_n 2, 1) := by decide +kernel
theorem dX9_addKey_15 : decode cX9_addKey 15 = .ok (.iastore, 1) := by decide +kernel
theorem dX9_addKey_16 : decode cX9_addKey 16 = .ok (.aload_n 0, 1) := by decide +kernel
theorem dX9_addKey_17 : decode cX9_addKey 17 = .ok (.getfield 34, 3) := by decide +kernel
theorem dX9_addKey_20 : decode cX9_addKey 20 = .ok (.iload_n 1, 1) := by decide +kernel
theorem dX9_addKey_21 : decode cX9_addKey 21 = .ok (.iload_n 2, 1) := by decide +kernel
theorem dX9_addKey_22 : decode cX9_addKey 22 = .ok (.iastore, 1) := by decide +kernel
theorem dX9_addKey_23 : decode cX9_addKey 23 = .ok (.aload_n 0, 1) := by decide +kernel
theorem dX9_addKey_24 : decode cX9_addKey 24 = .ok (.getfield 28, 3) := by decide +kernel
theorem dX9_addKey_27 : decode cX9_addKey 27 = .ok (.iload_n 1, 1) := by decide +kernel
theorem dX9_addKey_28 : decode cX9_addKey 28 = .ok (.dup2, 1) := by decide +kernel
theorem dX9_addKey_29 : decode cX9_addKey 29 = .ok (.iaload, 1) := by decide +kernel
theorem dX9_addKey_30 : decode cX9_addKey 30 = .ok (.iconst 1, 1) := by decide +kernel
theorem dX9_addKey_31 : decode cX9_addKey 31 = .ok (.iadd, 1) := by decide +kernel
theorem dX9_addKey_32 : decode cX9_addKey 32 = .ok (.iastore, 1) := by decide +kernel
theorem dX9_addKey_33 : decode cX9_addKey 33 = .ok (.aload_n 0, 1) := by decide +kernel
theorem dX9_addKey_34 : decode cX9_addKey 34 = .ok (.getfield 46, 3) := by decide +kernel
theorem dX9_addKey_37 : decode cX9_addKey 37 = .ok (.iload_n 2, 1) := by decide +kernel
theorem dX9_addKey_38 : decode cX9_addKey 38 = .ok (.iload_n 1, 1) := by decide +kernel
theorem dX9_addKey_39 : decode cX9_addKey 39 = .ok (.iastore, 1) := by decide +kernel
theorem dX9_addKey_40 : decode cX9_addKey 40 = .ok (.return_, 1) := by decide +kernel
theorem dX9_hasDigest_0 : decode cX9_hasDigest 0 = .ok (.iconst 0, 1) := by decide +kernel
theorem dX9_hasDigest_1 : decode cX9_hasDigest 1 = .ok (.istore_n 2, 1) := by decide +kernel
theorem dX9_hasDigest_2 : decode cX9_hasDigest 2 = .ok (.iload_n 2, 1) := by decide +kernel
theorem dX9_hasDigest_3 : decode cX9_hasDigest 3 = .ok (.aload_n 0, 1) := by decide +kernel
theorem dX9_hasDigest_4 : decode cX9_hasDigest 4 = .ok (.getfield 49, 3) := by decide +kernel
theorem dX9_hasDigest_7 : decode cX9_hasDigest 7 = .ok (.if_icmp .ge 21, 3) := by decide +kernel
theorem dX9_hasDigest_10 : decode cX9_hasDigest 10 = .ok (.aload_n 0, 1) := by decide +kernel
theorem dX9_hasDigest_11 : decode cX9_hasDigest 11 = .ok (.getfield 43, 3) := by decide +kernel
theorem dX9_hasDigest_14 : decode cX9_hasDigest 14 = .ok (.iload_n 2, 1) := by decide +kernel
theorem dX9_hasDigest_15 : decode cX9_hasDigest 15 = .ok (.iaload, 1) := by decide +kernel
theorem dX9_hasDigest_16 : decode cX9_hasDigest 16 = .ok (.iload_n 1, 1) := by decide +kernel
theorem dX9_hasDigest_17 : decode cX9_hasDigest 17 = .ok (.if_icmp .ne 5, 3) := by decide +kernel
theorem dX9_hasDigest_20 : decode cX9_hasDigest 20 = .ok (.iconst 1, 1) := by decide +kernel
theorem dX9_hasDigest_21 : decode cX9_hasDigest 21 = .ok (.ireturn, 1) := by decide +kernel
theorem dX9_hasDigest_22 : decode cX9_hasDigest 22 = .ok (.iinc 2 1, 3) := by decide +kernel
theorem dX9_hasDigest_25 : decode cX9_hasDigest 25 = .ok (.goto (-23), 3) := by decide +kernel
theorem dX9_hasDigest_28 : decode cX9_hasDigest 28 = .ok (.iconst 0, 1) := by decide +kernel
theorem dX9_hasDigest_29 : decode cX9_hasDigest 29 = .ok (.ireturn, 1) := by decide +kernel
theorem dX9_countMissing_0 : decode cX9_countMissing 0 = .ok (.iconst 0, 1) := by decide +kernel
theorem dX9_countMissing_1 : decode cX9_countMissing 1 = .ok (.istore_n 2, 1) := by decide +kernel
theorem dX9_countMissing_2 : decode cX9_countMissing 2 = .ok (.iconst 0, 1) := by decide +kernel
theorem dX9_countMissing_3 : decode cX9_countMissing 3 = .ok (.istore_n 3, 1) := by decide +kernel
theorem dX9_countMissing_4 : decode cX9_countMissing 4 = .ok (.iload_n 3, 1) := by decide +kernel
theorem dX9_countMissing_5 : decode cX9_countMissing 5 = .ok (.aload_n 0, 1) := by decide +kernel
theorem dX9_countMissing_6 : decode cX9_countMissing 6 = .ok (.getfield 49, 3) := by decide +kernel
theorem dX9_countMissing_9 : decode cX9_countMissing 9 = .ok (.if_icmp .ge 25, 3) := by decide +kernel
theorem dX9_countMissing_12 : decode cX9_countMissing 12 = .ok (.aload_n 1, 1) := by decide +kernel
theorem dX9_countMissing_13 : decode cX9_countMissing 13 = .ok (.aload_n 0, 1) := by decide +kernel
theorem dX9_countMissing_14 : decode cX9_countMissing 14 = .ok (.getfield 43, 3) := by decide +kernel
theorem dX9_countMissing_17 : decode cX9_countMissing 17 = .ok (.iload_n 3, 1) := by decide +kernel
theorem dX9_countMissing_18 : decode cX9_countMissing 18 = .ok (.iaload, 1) := by decide +kernel
theorem dX9_countMissing_19 : decode cX9_countMissing 19 = .ok (.invokevirtual 101, 3) := by decide +kernel
theorem dX9_countMissing_22 : decode cX9_countMissing 22 = .ok (.ifCond .ne 6, 3) := by decide +kernel
theorem dX9_countMissing_25 : decode cX9_countMissing 25 = .ok (.iinc 2 1, 3) := by decide +kernel
theorem dX9_countMissing_28 : decode cX9_countMissing 28 = .ok (.iinc 3 1, 3) := by decide +kernel
theorem dX9_countMissing_31 : decode cX9_countMissing 31 = .ok (.goto (-27), 3) := by decide +kernel
theorem dX9_countMissing_34 : decode cX9_countMissing 34 = .ok (.iload_n 2, 1) := by decide +kernel
theorem dX9_countMissing_35 : decode cX9_countMissing 35 = .ok (.ireturn, 1) := by decide +kernel
theorem dX9_depthOf_0 : decode cX9_depthOf 0 = .ok (.iconst 0, 1) := by decide +kernel
theorem dX9_depthOf_1 : decode cX9_depthOf 1 = .ok (.istore_n 2, 1) := by decide +kernel
theorem dX9_depthOf_2 : decode cX9_depthOf 2 = .ok (.aload_n 0, 1) := by decide +kernel
theorem dX9_depthOf_3 : decode cX9_depthOf 3 = .ok (.getfield 46, 3) := by decide +kernel
theorem dX9_depthOf_6 : decode cX9_depthOf 6 = .ok (.iload_n 1, 1) := by decide +kernel
theorem dX9_depthOf_7 : decode cX9_depthOf 7 = .ok (.iaload, 1) := by decide +kernel
theorem dX9_depthOf_8 : decode cX9_depthOf 8 = .ok (.istore_n 3, 1) := by decide +kernel
theorem dX9_depthOf_9 : decode cX9_depthOf 9 = .ok (.iload_n 3, 1) := by decide +kernel
theorem dX9_depthOf_10 : decode cX9_depthOf 10 = .ok (.iconst (-1), 1) := by decide +kernel
theorem dX9_depthOf_11 : decode cX9_depthOf 11 = .ok (.if_icmp .eq 22, 3) := by decide +kernel
theorem dX9_depthOf_14 : decode cX9_depthOf 14 = .ok (.iload_n 2, 1) := by decide +kernel
theorem dX9_depthOf_15 : decode cX9_depthOf 15 = .ok (.bipush 24, 2) := by decide +kernel
theorem dX9_depthOf_17 : decode cX9_depthOf 17 = .ok (.if_icmp .ge 16, 3) := by decide +kernel
theorem dX9_depthOf_20 : decode cX9_depthOf 20 = .ok (.iinc 2 1, 3) := by decide +kernel
theorem dX9_depthOf_23 : decode cX9_depthOf 23 = .ok (.aload_n 0, 1) := by decide +kernel
theorem dX9_depthOf_24 : decode cX9_depthOf 24 = .ok (.getfield 40, 3) := by decide +kernel
theorem dX9_depthOf_27 : decode cX9_depthOf 27 = .ok (.iload_n 3, 1) := by decide +kernel
theorem dX9_depthOf_28 : decode cX9_depthOf 28 = .ok (.iaload, 1) := by decide +kernel
theorem dX9_depthOf_29 : decode cX9_depthOf 29 = .ok (.istore_n 3, 1) := by decide +kernel
theorem dX9_depthOf_30 : decode cX9_depthOf 30 = .ok (.goto (-21), 3) := by decide +kernel
theorem dX9_depthOf_33 : decode cX9_depthOf 33 = .ok (.iload_n 2, 1) := by decide +kernel
theorem dX9_depthOf_34 : decode cX9_depthOf 34 = .ok (.ireturn, 1) := by decide +kernel
theorem dX9_tell_0 : decode cX9_tell 0 = .ok (.iload_n 2, 1) := by decide +kernel
theorem dX9_tell_1 : decode cX9_tell 1 = .ok (.tableswitch 81 0 5 #[39, 46, 53, 60, 67, 74], 39) := by decide +kernel
theorem dX9_tell_40 : decode cX9_tell 40 = .ok (.aload_n 0, 1) := by decide +kernel
theorem dX9_tell_41 : decode cX9_tell 41 = .ok (.getfield 25, 3) := by decide +kernel
theorem dX9_tell_44 : decode cX9_tell 44 = .ok (.iload_n 1, 1) := by decide +kernel
theorem dX9_tell_45 : decode cX9_tell 45 = .ok (.iaload, 1) := by decide +kernel
theorem dX9_tell_46 : decode cX9_tell 46 = .ok (.ireturn, 1) := by decide +kernel
theorem dX9_tell_47 : decode cX9_tell 47 = .ok (.aload_n 0, 1) := by decide +kernel
theorem dX9_tell_48 : decode cX9_tell 48 = .ok (.getfield 28, 3) := by decide +kernel
theorem dX9_tell_51 : decode cX9_tell 51 = .ok (.iload_n 1, 1) := by decide +kernel
theorem dX9_tell_52 : decode cX9_tell 52 = .ok (.iaload, 1) := by decide +kernel
theorem dX9_tell_53 : decode cX9_tell 53 = .ok (.ireturn, 1) := by decide +kernel
theorem dX9_tell_54 : decode cX9_tell 54 = .ok (.aload_n 0, 1) := by decide +kernel
theorem dX9_tell_55 : decode cX9_tell 55 = .ok (.getfield 31, 3) := by decide +kernel
theorem dX9_tell_58 : decode cX9_tell 58 = .ok (.iload_n 1, 1) := by decide +kernel
theorem dX9_tell_59 : decode cX9_tell 59 = .ok (.iaload, 1) := by decide +kernel
theorem dX9_tell_60 : decode cX9_tell 60 = .ok (.ireturn, 1) := by decide +kernel
theorem dX9_tell_61 : decode cX9_tell 61 = .ok (.aload_n 0, 1) := by decide +kernel
theorem dX9_tell_62 : decode cX9_tell 62 = .ok (.getfield 34, 3) := by decide +kernel
theorem dX9_tell_65 : decode cX9_tell 65 = .ok (.iload_n 1, 1) := by decide +kernel
theorem dX9_tell_66 : decode cX9_tell 66 = .ok (.iaload, 1) := by decide +kernel
theorem dX9_tell_67 : decode cX9_tell 67 = .ok (.ireturn, 1) := by decide +kernel
theorem dX9_tell_68 : decode cX9_tell 68 = .ok (.aload_n 0, 1) := by decide +kernel
theorem dX9_tell_69 : decode cX9_tell 69 = .ok (.getfield 37, 3) := by decide +kernel
theorem dX9_tell_72 : decode cX9_tell 72 = .ok (.iload_n 1, 1) := by decide +kernel
theorem dX9_tell_73 : decode cX9_tell 73 = .ok (.iaload, 1) := by decide +kernel
theorem dX9_tell_74 : decode cX9_tell 74 = .ok (.ireturn, 1) := by decide +kernel
theorem dX9_tell_75 : decode cX9_tell 75 = .ok (.aload_n 0, 1) := by decide +kernel
theorem dX9_tell_76 : decode cX9_tell 76 = .ok (.getfield 40, 3) := by decide +kernel
theorem dX9_tell_79 : decode cX9_tell 79 = .ok (.iload_n 1, 1) := by decide +kernel
theorem dX9_tell_80 : decode cX9_tell 80 = .ok (.iaload, 1) := by decide +kernel
theorem dX9_tell_81 : decode cX9_tell 81 = .ok (.ireturn, 1) := by decide +kernel
theorem dX9_tell_82 : decode cX9_tell 82 = .ok (.aload_n 0, 1) := by decide +kernel
theorem dX9_tell_83 : decode cX9_tell 83 = .ok (.getfield 43, 3) := by decide +kernel
theorem dX9_tell_86 : decode cX9_tell 86 = .ok (.iload_n 1, 1) := by decide +kernel
theorem dX9_tell_87 : decode cX9_tell 87 = .ok (.iaload, 1) := by decide +kernel
theorem dX9_tell_88 : decode cX9_tell 88 = .ok (.ireturn, 1) := by decide +kernel
theorem dX10_init_0 : decode cX10_init 0 = .ok (.aload_n 0, 1) := by decide +kernel
theorem dX10_init_1 : decode cX10_init 1 = .ok (.invokespecial 3, 3) := by decide +kernel
theorem dX10_init_4 : decode cX10_init 4 = .ok (.aload_n 0, 1) := by decide +kernel
theorem dX10_init_5 : decode cX10_init 5 = .ok (.bipush 9, 2) := by decide +kernel
theorem dX10_init_7 : decode cX10_init 7 = .ok (.anewarray 9, 3) := by decide +kernel
theorem dX10_init_10 : decode cX10_init 10 = .ok (.putfield 11, 3) := by decide +kernel
theorem dX10_init_13 : decode cX10_init 13 = .ok (.aload_n 0, 1) := by decide +kernel
theorem dX10_init_14 : decode cX10_init 14 = .ok (.iconst 0, 1) := by decide +kernel
theorem dX10_init_15 : decode cX10_init 15 = .ok (.putfield 17, 3) := by decide +kernel
theorem dX10_init_18 : decode cX10_init 18 = .ok (.aload_n 0, 1) := by decide +kernel
theorem dX10_init_19 : decode cX10_init 19 = .ok (.iconst 0, 1) := by decide +kernel
theorem dX10_init_20 : decode cX10_init 20 = .ok (.putfield 21, 3) := by decide +kernel
theorem dX10_init_23 : decode cX10_init 23 = .ok (.iconst 0, 1) := by decide +kernel
theorem dX10_init_24 : decode cX10_init 24 = .ok (.istore_n 1, 1) := by decide +kernel
theorem dX10_init_25 : decode cX10_init 25 = .ok (.iload_n 1, 1) := by decide +kernel
theorem dX10_init_26 : decode cX10_init 26 = .ok (.aload_n 0, 1) := by decide +kernel
theorem dX10_init_27 : decode cX10_init 27 = .ok (.getfield 11, 3) := by decide +kernel
theorem dX10_init_30 : decode cX10_init 30 = .ok (.arraylength, 1) := by decide +kernel
theorem dX10_init_31 : decode cX10_init 31 = .ok (.if_icmp .ge 22, 3) := by decide +kernel
theorem dX10_init_34 : decode cX10_init 34 = .ok (.aload_n 0, 1) := by decide +kernel
theorem dX10_init_35 : decode cX10_init 35 = .ok (.getfield 11, 3) := by decide +kernel
theorem dX10_init_38 : decode cX10_init 38 = .ok (.iload_n 1, 1) := by decide +kernel
theorem dX10_init_39 : decode cX10_init 39 = .ok (.new 9, 3) := by decide +kernel
theorem dX10_init_42 : decode cX10_init 42 = .ok (.dup, 1) := by decide +kernel
theorem dX10_init_43 : decode cX10_init 43 = .ok (.invokespecial 24, 3) := by decide +kernel
theorem dX10_init_46 : decode cX10_init 46 = .ok (.aastore, 1) := by decide +kernel
theorem dX10_init_47 : decode cX10_init 47 = .ok (.iinc 1 1, 3) := by decide +kernel
theorem dX10_init_50 : decode cX10_init 50 = .ok (.goto (-25), 3) := by decide +kernel
theorem dX10_init_53 : decode cX10_init 53 = .ok (.return_, 1) := by decide +kernel
theorem dX10_clear_0 : decode cX10_clear 0 = .ok (.aload_n 0, 1) := by decide +kernel
theorem dX10_clear_1 : decode cX10_clear 1 = .ok (.iconst 0, 1) := by decide +kernel
theorem dX10_clear_2 : decode cX10_clear 2 = .ok (.putfield 21, 3) := by decide +kernel
theorem dX10_clear_5 : decode cX10_clear 5 = .ok (.return_, 1) := by decide +kernel
theorem dX10_note_0 : decode cX10_note 0 = .ok (.aload_n 0, 1) := by decide +kernel
theorem dX10_note_1 : decode cX10_note 1 = .ok (.getfield 11, 3) := by decide +kernel
theorem dX10_note_4 : decode cX10_note 4 = .ok (.aload_n 0, 1) := by decide +kernel
theorem dX10_note_5 : decode cX10_note 5 = .ok (.getfield 17, 3) := by decide +kernel
theorem dX10_note_8 : decode cX10_note 8 = .ok (.aaload, 1) := by decide +kernel
theorem dX10_note_9 : decode cX10_note 9 = .ok (.aload_n 1, 1) := by decide +kernel
theorem dX10_note_10 : decode cX10_note 10 = .ok (.invokevirtual 25, 3) := by decide +kernel
theorem dX10_note_13 : decode cX10_note 13 = .ok (.return_, 1) := by decide +kernel
theorem dX10_keepNoted_0 : decode cX10_keepNoted 0 = .ok (.aload_n 0, 1) := by decide +kernel
theorem dX10_keepNoted_1 : decode cX10_keepNoted 1 = .ok (.aload_n 0, 1) := by decide +kernel
theorem dX10_keepNoted_2 : decode cX10_keepNoted 2 = .ok (.getfield 17, 3) := by decide +kernel
theorem dX10_keepNoted_5 : decode cX10_keepNoted 5 = .ok (.iconst 1, 1) := by decide +kernel
theorem dX10_keepNoted_6 : decode cX10_keepNoted 6 = .ok (.iadd, 1) := by decide +kernel
theorem dX10_keepNoted_7 : decode cX10_keepNoted 7 = .ok (.bipush 9, 2) := by decide +kernel
theorem dX10_keepNoted_9 : decode cX10_keepNoted 9 = .ok (.irem, 1) := by decide +kernel
theorem dX10_keepNoted_10 : decode cX10_keepNoted 10 = .ok (.putfield 17, 3) := by decide +kernel
theorem dX10_keepNoted_13 : decode cX10_keepNoted 13 = .ok (.aload_n 0, 1) := by decide +kernel
theorem dX10_keepNoted_14 : decode cX10_keepNoted 14 = .ok (.aload_n 0, 1) := by decide +kernel
theorem dX10_keepNoted_15 : decode cX10_keepNoted 15 = .ok (.getfield 21, 3) := by decide +kernel
theorem dX10_keepNoted_18 : decode cX10_keepNoted 18 = .ok (.iconst 1, 1) := by decide +kernel
theorem dX10_keepNoted_19 : decode cX10_keepNoted 19 = .ok (.iadd, 1) := by decide +kernel
theorem dX10_keepNoted_20 : decode cX10_keepNoted 20 = .ok (.bipush 8, 2) := by decide +kernel
theorem dX10_keepNoted_22 : decode cX10_keepNoted 22 = .ok (.invokestatic 29, 3) := by decide +kernel
theorem dX10_keepNoted_25 : decode cX10_keepNoted 25 = .ok (.putfield 21, 3) := by decide +kernel
theorem dX10_keepNoted_28 : decode cX10_keepNoted 28 = .ok (.return_, 1) := by decide +kernel
theorem dX10_takeBack_0 : decode cX10_takeBack 0 = .ok (.aload_n 0, 1) := by decide +kernel
theorem dX10_takeBack_1 : decode cX10_takeBack 1 = .ok (.aload_n 0, 1) := by decide +kernel
theorem dX10_takeBack_2 : decode cX10_takeBack 2 = .ok (.getfield 17, 3) := by decide +kernel
theorem dX10_takeBack_5 : decode cX10_takeBack 5 = .ok (.bipush 8, 2) := by decide +kernel
theorem dX10_takeBack_7 : decode cX10_takeBack 7 = .ok (.iadd, 1) := by decide +kernel
theorem dX10_takeBack_8 : decode cX10_takeBack 8 = .ok (.bipush 9, 2) := by decide +kernel
theorem dX10_takeBack_10 : decode cX10_takeBack 10 = .ok (.irem, 1) := by decide +kernel
theorem dX10_takeBack_11 : decode cX10_takeBack 11 = .ok (.putfield 17, 3) := by decide +kernel
theorem dX10_takeBack_14 : decode cX10_takeBack 14 = .ok (.aload_n 0, 1) := by decide +kernel
theorem dX10_takeBack_15 : decode cX10_takeBack 15 = .ok (.dup, 1) := by decide +kernel
theorem dX10_takeBack_16 : decode cX10_takeBack 16 = .ok (.getfield 21, 3) := by decide +kernel
theorem dX10_takeBack_19 : decode cX10_takeBack 19 = .ok (.iconst 1, 1) := by decide +kernel
theorem dX10_takeBack_20 : decode cX10_takeBack 20 = .ok (.isub, 1) := by decide +kernel
theorem dX10_takeBack_21 : decode cX10_takeBack 21 = .ok (.putfield 21, 3) := by decide +kernel
theorem dX10_takeBack_24 : decode cX10_takeBack 24 = .ok (.aload_n 1, 1) := by decide +kernel
theorem dX10_takeBack_25 : decode cX10_takeBack 25 = .ok (.aload_n 0, 1) := by decide +kernel
theorem dX10_takeBack_26 : decode cX10_takeBack 26 = .ok (.getfield 11, 3) := by decide +kernel
theorem dX10_takeBack_29 : decode cX10_takeBack 29 = .ok (.aload_n 0, 1) := by decide +kernel
theorem dX10_takeBack_30 : decode cX10_takeBack 30 = .ok (.getfield 17, 3) := by decide +kernel
theorem dX10_takeBack_33 : decode cX10_takeBack 33 = .ok (.aaload, 1) := by decide +kernel
theorem dX10_takeBack_34 : decode cX10_takeBack 34 = .ok (.invokevirtual 25, 3) := by decide +kernel
theorem dX10_takeBack_37 : decode cX10_takeBack 37 = .ok (.return_, 1) := by decide +kernel
theorem dX11_init_0 : decode cX11_init 0 = .ok (.aload_n 0, 1) := by decide +kernel
theorem dX11_init_1 : decode cX11_init 1 = .ok (.invokespecial 1, 3) := by decide +kernel
theorem dX11_init_4 : decode cX11_init 4 = .ok (.aload_n 0, 1) := by decide +kernel
theorem dX11_init_5 : decode cX11_init 5 = .ok (.sipush 940, 3) := by decide +kernel
theorem dX11_init_8 : decode cX11_init 8 = .ok (.newarray .byte, 2) := by decide +kernel
theorem dX11_init_10 : decode cX11_init 10 = .ok (.putfield 9, 3) := by decide +kernel
theorem dX11_init_13 : decode cX11_init 13 = .ok (.aload_n 0, 1) := by decide +kernel
theorem dX11_init_14 : decode cX11_init 14 = .ok (.iconst 0, 1) := by decide +kernel
theorem dX11_init_15 : decode cX11_init 15 = .ok (.putfield 13, 3) := by decide +kernel
theorem dX11_init_18 : decode cX11_init 18 = .ok (.aload_n 0, 1) := by decide +kernel
theorem dX11_init_19 : decode cX11_init 19 = .ok (.new 17, 3) := by decide +kernel
theorem dX11_init_22 : decode cX11_init 22 = .ok (.dup, 1) := by decide +kernel
theorem dX11_init_23 : decode cX11_init 23 = .ok (.invokespecial 19, 3) := by decide +kernel
theorem dX11_init_26 : decode cX11_init 26 = .ok (.putfield 20, 3) := by decide +kernel
theorem dX11_init_29 : decode cX11_init 29 = .ok (.aload_n 0, 1) := by decide +kernel
theorem dX11_init_30 : decode cX11_init 30 = .ok (.new 17, 3) := by decide +kernel
theorem dX11_init_33 : decode cX11_init 33 = .ok (.dup, 1) := by decide +kernel
theorem dX11_init_34 : decode cX11_init 34 = .ok (.invokespecial 19, 3) := by decide +kernel
theorem dX11_init_37 : decode cX11_init 37 = .ok (.putfield 24, 3) := by decide +kernel
theorem dX11_init_40 : decode cX11_init 40 = .ok (.aload_n 0, 1) := by decide +kernel
theorem dX11_init_41 : decode cX11_init 41 = .ok (.iconst 2, 1) := by decide +kernel
theorem dX11_init_42 : decode cX11_init 42 = .ok (.anewarray 17, 3) := by decide +kernel
theorem dX11_init_45 : decode cX11_init 45 = .ok (.dup, 1) := by decide +kernel
theorem dX11_init_46 : decode cX11_init 46 = .ok (.iconst 0, 1) := by decide +kernel
theorem dX11_init_47 : decode cX11_init 47 = .ok (.new 17, 3) := by decide +kernel
theorem dX11_init_50 : decode cX11_init 50 = .ok (.dup, 1) := by decide +kernel
theorem dX11_init_51 : decode cX11_init 51 = .ok (.invokespecial 19, 3) := by decide +kernel
theorem dX11_init_54 : decode cX11_init 54 = .ok (.aastore, 1) := by decide +kernel
theorem dX11_init_55 : decode cX11_init 55 = .ok (.dup, 1) := by decide +kernel
theorem dX11_init_56 : decode cX11_init 56 = .ok (.iconst 1, 1) := by decide +kernel
theorem dX11_init_57 : decode cX11_init 57 = .ok (.new 17, 3) := by decide +kernel
theorem dX11_init_60 : decode cX11_init 60 = .ok (.dup, 1) := by decide +kernel
theorem dX11_init_61 : decode cX11_init 61 = .ok (.invokespecial 19, 3) := by decide +kernel
theorem dX11_init_64 : decode cX11_init 64 = .ok (.aastore, 1) := by decide +kernel
theorem dX11_init_65 : decode cX11_init 65 = .ok (.putfield 27, 3) := by decide +kernel
theorem dX11_init_68 : decode cX11_init 68 = .ok (.aload_n 0, 1) := by decide +kernel
theorem dX11_init_69 : decode cX11_init 69 = .ok (.new 31, 3) := by decide +kernel
theorem dX11_init_72 : decode cX11_init 72 = .ok (.dup, 1) := by decide +kernel
theorem dX11_init_73 : decode cX11_init 73 = .ok (.aload_n 0, 1) := by decide +kernel
theorem dX11_init_74 : decode cX11_init 74 = .ok (.getfield 20, 3) := by decide +kernel
theorem dX11_init_77 : decode cX11_init 77 = .ok (.getfield 33, 3) := by decide +kernel
theorem dX11_init_80 : decode cX11_init 80 = .ok (.aload_n 0, 1) := by decide +kernel
theorem dX11_init_81 : decode cX11_init 81 = .ok (.getfield 20, 3) := by decide +kernel
theorem dX11_init_84 : decode cX11_init 84 = .ok (.getfield 37, 3) := by decide +kernel
theorem dX11_init_87 : decode cX11_init 87 = .ok (.invokespecial 41, 3) := by decide +kernel
theorem dX11_init_90 : decode cX11_init 90 = .ok (.putfield 44, 3) := by decide +kernel
theorem dX11_init_93 : decode cX11_init 93 = .ok (.aload_n 0, 1) := by decide +kernel
theorem dX11_init_94 : decode cX11_init 94 = .ok (.new 31, 3) := by decide +kernel
theorem dX11_init_97 : decode cX11_init 97 = .ok (.dup, 1) := by decide +kernel
theorem dX11_init_98 : decode cX11_init 98 = .ok (.aload_n 0, 1) := by decide +kernel
theorem dX11_init_99 : decode cX11_init 99 = .ok (.getfield 20, 3) := by decide +kernel
theorem dX11_init_102 : decode cX11_init 102 = .ok (.getfield 33, 3) := by decide +kernel
theorem dX11_init_105 : decode cX11_init 105 = .ok (.new 48, 3) := by decide +kernel
theorem dX11_init_108 : decode cX11_init 108 = .ok (.dup, 1) := by decide +kernel
theorem dX11_init_109 : decode cX11_init 109 = .ok (.invokespecial 50, 3) := by decide +kernel
theorem dX11_init_112 : decode cX11_init 112 = .ok (.invokespecial 41, 3) := by decide +kernel
theorem dX11_init_115 : decode cX11_init 115 = .ok (.putfield 51, 3) := by decide +kernel
theorem dX11_init_118 : decode cX11_init 118 = .ok (.aload_n 0, 1) := by decide +kernel
theorem dX11_init_119 : decode cX11_init 119 = .ok (.new 54, 3) := by decide +kernel
theorem dX11_init_122 : decode cX11_init 122 = .ok (.dup, 1) := by decide +kernel
theorem dX11_init_123 : decode cX11_init 123 = .ok (.invokespecial 56, 3) := by decide +kernel
theorem dX11_init_126 : decode cX11_init 126 = .ok (.putfield 57, 3) := by decide +kernel
theorem dX11_init_129 : decode cX11_init 129 = .ok (.aload_n 0, 1) := by decide +kernel
theorem dX11_init_130 : decode cX11_init 130 = .ok (.new 61, 3) := by decide +kernel
theorem dX11_init_133 : decode cX11_init 133 = .ok (.dup, 1) := by decide +kernel
theorem dX11_init_134 : decode cX11_init 134 = .ok (.invokespecial 63, 3) := by decide +kernel
theorem dX11_init_137 : decode cX11_init 137 = .ok (.putfield 64, 3) := by decide +kernel
theorem dX11_init_140 : decode cX11_init 140 = .ok (.aload_n 0, 1) := by decide +kernel
theorem dX11_init_141 : decode cX11_init 141 = .ok (.new 68, 3) := by decide +kernel
theorem dX11_init_144 : decode cX11_init 144 = .ok (.dup, 1) := by decide +kernel
theorem dX11_init_145 : decode cX11_init 145 = .ok (.aload_n 0, 1) := by decide +kernel
theorem dX11_init_146 : decode cX11_init 146 = .ok (.getfield 9, 3) := by decide +kernel
theorem dX11_init_149 : decode cX11_init 149 = .ok (.invokespecial 70, 3) := by decide +kernel
theorem dX11_init_152 : decode cX11_init 152 = .ok (.putfield 73, 3) := by decide +kernel
theorem dX11_init_155 : decode cX11_init 155 = .ok (.aload_n 0, 1) := by decide +kernel
theorem dX11_init_156 : decode cX11_init 156 = .ok (.new 77, 3) := by decide +kernel
theorem dX11_init_159 : decode cX11_init 159 = .ok (.dup, 1) := by decide +kernel
theorem dX11_init_160 : decode cX11_init 160 = .ok (.aload_n 0, 1) := by decide +kernel
theorem dX11_init_161 : decode cX11_init 161 = .ok (.getfield 73, 3) := by decide +kernel
theorem dX11_init_164 : decode cX11_init 164 = .ok (.aload_n 0, 1) := by decide +kernel
theorem dX11_init_165 : decode cX11_init 165 = .ok (.getfield 24, 3) := by decide +kernel
theorem dX11_init_168 : decode cX11_init 168 = .ok (.invokespecial 79, 3) := by decide +kernel
theorem dX11_init_171 : decode cX11_init 171 = .ok (.putfield 82, 3) := by decide +kernel
theorem dX11_init_174 : decode cX11_init 174 = .ok (.aload_n 0, 1) := by decide +kernel
theorem dX11_init_175 : decode cX11_init 175 = .ok (.new 86, 3) := by decide +kernel
theorem dX11_init_178 : decode cX11_init 178 = .ok (.dup, 1) := by decide +kernel
theorem dX11_init_179 : decode cX11_init 179 = .ok (.aload_n 0, 1) := by decide +kernel
theorem dX11_init_180 : decode cX11_init 180 = .ok (.getfield 73, 3) := by decide +kernel
theorem dX11_init_183 : decode cX11_init 183 = .ok (.aload_n 0, 1) := by decide +kernel
theorem dX11_init_184 : decode cX11_init 184 = .ok (.getfield 20, 3) := by decide +kernel
theorem dX11_init_187 : decode cX11_init 187 = .ok (.getfield 33, 3) := by decide +kernel
theorem dX11_init_190 : decode cX11_init 190 = .ok (.invokespecial 88, 3) := by decide +kernel
theorem dX11_init_193 : decode cX11_init 193 = .ok (.putfield 91, 3) := by decide +kernel
theorem dX11_init_196 : decode cX11_init 196 = .ok (.aload_n 0, 1) := by decide +kernel
theorem dX11_init_197 : decode cX11_init 197 = .ok (.bipush 24, 2) := by decide +kernel
theorem dX11_init_199 : decode cX11_init 199 = .ok (.newarray .int, 2) := by decide +kernel
theorem dX11_init_201 : decode cX11_init 201 = .ok (.putfield 95, 3) := by decide +kernel
theorem dX11_init_204 : decode cX11_init 204 = .ok (.aload_n 0, 1) := by decide +kernel
theorem dX11_init_205 : decode cX11_init 205 = .ok (.iconst 0, 1) := by decide +kernel
theorem dX11_init_206 : decode cX11_init 206 = .ok (.putfield 99, 3) := by decide +kernel
theorem dX11_init_209 : decode cX11_init 209 = .ok (.aload_n 0, 1) := by decide +kernel
theorem dX11_init_210 : decode cX11_init 210 = .ok (.bipush 48, 2) := by decide +kernel
theorem dX11_init_212 : decode cX11_init 212 = .ok (.newarray .byte, 2) := by decide +kernel
theorem dX11_init_214 : decode cX11_init 214 = .ok (.putfield 102, 3) := by decide +kernel
theorem dX11_init_217 : decode cX11_init 217 = .ok (.aload_n 0, 1) := by decide +kernel
theorem dX11_init_218 : decode cX11_init 218 = .ok (.iconst 0, 1) := by decide +kernel
theorem dX11_init_219 : decode cX11_init 219 = .ok (.putfield 105, 3) := by decide +kernel
theorem dX11_init_222 : decode cX11_init 222 = .ok (.aload_n 0, 1) := by decide +kernel
theorem dX11_init_223 : decode cX11_init 223 = .ok (.iconst 0, 1) := by decide +kernel
theorem dX11_init_224 : decode cX11_init 224 = .ok (.putfield 108, 3) := by decide +kernel
theorem dX11_init_227 : decode cX11_init 227 = .ok (.aload_n 0, 1) := by decide +kernel
theorem dX11_init_228 : decode cX11_init 228 = .ok (.iconst (-1), 1) := by decide +kernel
theorem dX11_init_229 : decode cX11_init 229 = .ok (.putfield 111, 3) := by decide +kernel
theorem dX11_init_232 : decode cX11_init 232 = .ok (.return_, 1) := by decide +kernel
theorem dX11_feed_0 : decode cX11_feed 0 = .ok (.aload_n 0, 1) := by decide +kernel
theorem dX11_feed_1 : decode cX11_feed 1 = .ok (.getfield 13, 3) := by decide +kernel
theorem dX11_feed_4 : decode cX11_feed 4 = .ok (.bipush 20, 2) := by decide +kernel
theorem dX11_feed_6 : decode cX11_feed 6 = .ok (.iadd, 1) := by decide +kernel
theorem dX11_feed_7 : decode cX11_feed 7 = .ok (.sipush 940, 3) := by decide +kernel
theorem dX11_feed_10 : decode cX11_feed 10 = .ok (.if_icmp .le 5, 3) := by decide +kernel
theorem dX11_feed_13 : decode cX11_feed 13 = .ok (.iconst (-1), 1) := by decide +kernel
theorem dX11_feed_14 : decode cX11_feed 14 = .ok (.ireturn, 1) := by decide +kernel
theorem dX11_feed_15 : decode cX11_feed 15 = .ok (.aload_n 0, 1) := by decide +kernel
theorem dX11_feed_16 : decode cX11_feed 16 = .ok (.iload_n 1, 1) := by decide +kernel
theorem dX11_feed_17 : decode cX11_feed 17 = .ok (.invokevirtual 114, 3) := by decide +kernel
theorem dX11_feed_20 : decode cX11_feed 20 = .ok (.aload_n 0, 1) := by decide +kernel
theorem dX11_feed_21 : decode cX11_feed 21 = .ok (.iload_n 2, 1) := by decide +kernel
theorem dX11_feed_22 : decode cX11_feed 22 = .ok (.invokevirtual 114, 3) := by decide +kernel
theorem dX11_feed_25 : decode cX11_feed 25 = .ok (.aload_n 0, 1) := by decide +kernel
theorem dX11_feed_26 : decode cX11_feed 26 = .ok (.iload_n 3, 1) := by decide +kernel
theorem dX11_feed_27 : decode cX11_feed 27 = .ok (.invokevirtual 114, 3) := by decide +kernel
theorem dX11_feed_30 : decode cX11_feed 30 = .ok (.aload_n 0, 1) := by decide +kernel
theorem dX11_feed_31 : decode cX11_feed 31 = .ok (.iload 4, 2) := by decide +kernel
theorem dX11_feed_33 : decode cX11_feed 33 = .ok (.invokevirtual 114, 3) := by decide +kernel
theorem dX11_feed_36 : decode cX11_feed 36 = .ok (.aload_n 0, 1) := by decide +kernel
theorem dX11_feed_37 : decode cX11_feed 37 = .ok (.iload 5, 2) := by decide +kernel
theorem dX11_feed_39 : decode cX11_feed 39 = .ok (.invokevirtual 114, 3) := by decide +kernel
theorem dX11_feed_42 : decode cX11_feed 42 = .ok (.aload_n 0, 1) := by decide +kernel
theorem dX11_feed_43 : decode cX11_feed 43 = .ok (.getfield 13, 3) := by decide +kernel
theorem dX11_feed_46 : decode cX11_feed 46 = .ok (.ireturn, 1) := by decide +kernel
theorem dX11_feedNumber_0 : decode cX11_feedNumber 0 = .ok (.bipush 24, 2) := by decide +kernel
theorem dX11_feedNumber_2 : decode cX11_feedNumber 2 = .ok (.istore_n 2, 1) := by decide +kernel
theorem dX11_feedNumber_3 : decode cX11_feedNumber 3 = .ok (.iload_n 2, 1) := by decide +kernel
theorem dX11_feedNumber_4 : decode cX11_feedNumber 4 = .ok (.ifCond .lt 32, 3) := by decide +kernel
theorem dX11_feedNumber_7 : decode cX11_feedNumber 7 = .ok (.aload_n 0, 1) := by decide +kernel
theorem dX11_feedNumber_8 : decode cX11_feedNumber 8 = .ok (.getfield 9, 3) := by decide +kernel
theorem dX11_feedNumber_11 : decode cX11_feedNumber 11 = .ok (.aload_n 0, 1) := by decide +kernel
theorem dX11_feedNumber_12 : decode cX11_feedNumber 12 = .ok (.getfield 13, 3) := by decide +kernel
theorem dX11_feedNumber_15 : decode cX11_feedNumber 15 = .ok (.iload_n 1, 1) := by decide +kernel
theorem dX11_feedNumber_16 : decode cX11_feedNumber 16 = .ok (.iload_n 2, 1) := by decide +kernel
theorem dX11_feedNumber_17 : decode cX11_feedNumber 17 = .ok (.iushr, 1) := by decide +kernel
theorem dX11_feedNumber_18 : decode cX11_feedNumber 18 = .ok (.i2b, 1) := by decide +kernel
theorem dX11_feedNumber_19 : decode cX11_feedNumber 19 = .ok (.bastore, 1) := by decide +kernel
theorem dX11_feedNumber_20 : decode cX11_feedNumber 20 = .ok (.aload_n 0, 1) := by decide +kernel
theorem dX11_feedNumber_21 : decode cX11_feedNumber 21 = .ok (.dup, 1) := by decide +kernel
theorem dX11_feedNumber_22 : decode cX11_feedNumber 22 = .ok (.getfield 13, 3) := by decide +kernel
theorem dX11_feedNumber_25 : decode cX11_feedNumber 25 = .ok (.iconst 1, 1) := by decide +kernel
theorem dX11_feedNumber_26 : decode cX11_feedNumber 26 = .ok (.iadd, 1) := by decide +kernel
theorem dX11_feedNumber_27 : decode cX11_feedNumber 27 = .ok (.putfield 13, 3) := by decide +kernel
theorem dX11_feedNumber_30 : decode cX11_feedNumber 30 = .ok (.iinc 2 (-8), 3) := by decide +kernel
theorem dX11_feedNumber_33 : decode cX11_feedNumber 33 = .ok (.goto (-30), 3) := by decide +kernel
theorem dX11_feedNumber_36 : decode cX11_feedNumber 36 = .ok (.return_, 1) := by decide +kernel
theorem dX11_end_0 : decode cX11_end 0 = .ok (.iload_n 1, 1) := by decide +kernel
theorem dX11_end_1 : decode cX11_end 1 = .ok (.ifCond .lt 11, 3) := by decide +kernel
theorem dX11_end_4 : decode cX11_end 4 = .ok (.iload_n 1, 1) := by decide +kernel
theorem dX11_end_5 : decode cX11_end 5 = .ok (.aload_n 0, 1) := by decide +kernel
theorem dX11_end_6 : decode cX11_end 6 = .ok (.getfield 13, 3) := by decide +kernel
theorem dX11_end_9 : decode cX11_end 9 = .ok (.if_icmp .le 5, 3) := by decide +kernel
theorem dX11_end_12 : decode cX11_end 12 = .ok (.iconst 0, 1) := by decide +kernel
theorem dX11_end_13 : decode cX11_end 13 = .ok (.ireturn, 1) := by decide +kernel
theorem dX11_end_14 : decode cX11_end 14 = .ok (.aload_n 0, 1) := by decide +kernel
theorem dX11_end_15 : decode cX11_end 15 = .ok (.iload_n 1, 1) := by decide +kernel
theorem dX11_end_16 : decode cX11_end 16 = .ok (.putfield 13, 3) := by decide +kernel
theorem dX11_end_19 : decode cX11_end 19 = .ok (.iconst 1, 1) := by decide +kernel
theorem dX11_end_20 : decode cX11_end 20 = .ok (.ireturn, 1) := by decide +kernel
theorem dX11_cluster_0 : decode cX11_cluster 0 = .ok (.aload_n 0, 1) := by decide +kernel
theorem dX11_cluster_1 : decode cX11_cluster 1 = .ok (.getfield 73, 3) := by decide +kernel
theorem dX11_cluster_4 : decode cX11_cluster 4 = .ok (.aload_n 0, 1) := by decide +kernel
theorem dX11_cluster_5 : decode cX11_cluster 5 = .ok (.getfield 13, 3) := by decide +kernel
theorem dX11_cluster_8 : decode cX11_cluster 8 = .ok (.sipush 900, 3) := by decide +kernel
theorem dX11_cluster_11 : decode cX11_cluster 11 = .ok (.invokevirtual 118, 3) := by decide +kernel
theorem dX11_cluster_14 : decode cX11_cluster 14 = .ok (.aload_n 0, 1) := by decide +kernel
theorem dX11_cluster_15 : decode cX11_cluster 15 = .ok (.getfield 82, 3) := by decide +kernel
theorem dX11_cluster_18 : decode cX11_cluster 18 = .ok (.invokevirtual 122, 3) := by decide +kernel
theorem dX11_cluster_21 : decode cX11_cluster 21 = .ok (.istore_n 1, 1) := by decide +kernel
theorem dX11_cluster_22 : decode cX11_cluster 22 = .ok (.aload_n 0, 1) := by decide +kernel
theorem dX11_cluster_23 : decode cX11_cluster 23 = .ok (.aload_n 0, 1) := by decide +kernel
theorem dX11_cluster_24 : decode cX11_cluster 24 = .ok (.getfield 73, 3) := by decide +kernel
theorem dX11_cluster_27 : decode cX11_cluster 27 = .ok (.getfield 126, 3) := by decide +kernel
theorem dX11_cluster_30 : decode cX11_cluster 30 = .ok (.invokevirtual 129, 3) := by decide +kernel
theorem dX11_cluster_33 : decode cX11_cluster 33 = .ok (.iload_n 1, 1) := by decide +kernel
theorem dX11_cluster_34 : decode cX11_cluster 34 = .ok (.ifCond .ne 13, 3) := by decide +kernel
theorem dX11_cluster_37 : decode cX11_cluster 37 = .ok (.iconst (-1), 1) := by decide +kernel
theorem dX11_cluster_38 : decode cX11_cluster 38 = .ok (.aload_n 0, 1) := by decide +kernel
theorem dX11_cluster_39 : decode cX11_cluster 39 = .ok (.getfield 73, 3) := by decide +kernel
theorem dX11_cluster_42 : decode cX11_cluster 42 = .ok (.getfield 132, 3) := by decide +kernel
theorem dX11_cluster_45 : decode cX11_cluster 45 = .ok (.isub, 1) := by decide +kernel
theorem dX11_cluster_46 : decode cX11_cluster 46 = .ok (.ireturn, 1) := by decide +kernel
theorem dX11_cluster_47 : decode cX11_cluster 47 = .ok (.aload_n 0, 1) := by decide +kernel
theorem dX11_cluster_48 : decode cX11_cluster 48 = .ok (.getfield 24, 3) := by decide +kernel
theorem dX11_cluster_51 : decode cX11_cluster 51 = .ok (.getfield 135, 3) := by decide +kernel
theorem dX11_cluster_54 : decode cX11_cluster 54 = .ok (.invokevirtual 139, 3) := by decide +kernel
theorem dX11_cluster_57 : decode cX11_cluster 57 = .ok (.aload_n 0, 1) := by decide +kernel
theorem dX11_cluster_58 : decode cX11_cluster 58 = .ok (.getfield 20, 3) := by decide +kernel
theorem dX11_cluster_61 : decode cX11_cluster 61 = .ok (.aload_n 0, 1) := by decide +kernel
theorem dX11_cluster_62 : decode cX11_cluster 62 = .ok (.getfield 24, 3) := by decide +kernel
theorem dX11_cluster_65 : decode cX11_cluster 65 = .ok (.invokevirtual 144, 3) := by decide +kernel
theorem dX11_cluster_68 : decode cX11_cluster 68 = .ok (.aload_n 0, 1) := by decide +kernel
theorem dX11_cluster_69 : decode cX11_cluster 69 = .ok (.getfield 44, 3) := by decide +kernel
theorem dX11_cluster_72 : decode cX11_cluster 72 = .ok (.invokevirtual 148, 3) := by decide +kernel
theorem dX11_cluster_75 : decode cX11_cluster 75 = .ok (.aload_n 0, 1) := by decide +kernel
theorem dX11_cluster_76 : decode cX11_cluster 76 = .ok (.getfield 57, 3) := by decide +kernel
theorem dX11_cluster_79 : decode cX11_cluster 79 = .ok (.invokevirtual 151, 3) := by decide +kernel
theorem dX11_cluster_82 : decode cX11_cluster 82 = .ok (.aload_n 0, 1) := by decide +kernel
theorem dX11_cluster_83 : decode cX11_cluster 83 = .ok (.getfield 73, 3) := by decide +kernel
theorem dX11_cluster_86 : decode cX11_cluster 86 = .ok (.getfield 126, 3) := by decide +kernel
theorem dX11_cluster_89 : decode cX11_cluster 89 = .ok (.ireturn, 1) := by decide +kernel
theorem dX11_closeText_0 : decode cX11_closeText 0 = .ok (.aload_n 0, 1) := by decide +kernel
theorem dX11_closeText_1 : decode cX11_closeText 1 = .ok (.iconst 0, 1) := by decide +kernel
theorem dX11_closeText_2 : decode cX11_closeText 2 = .ok (.putfield 13, 3) := by decide +kernel
theorem dX11_closeText_5 : decode cX11_closeText 5 = .ok (.aload_n 0, 1) := by decide +kernel
theorem dX11_closeText_6 : decode cX11_closeText 6 = .ok (.aload_n 0, 1) := by decide +kernel
theorem dX11_closeText_7 : decode cX11_closeText 7 = .ok (.getfield 73, 3) := by decide +kernel
theorem dX11_closeText_10 : decode cX11_closeText 10 = .ok (.getfield 152, 3) := by decide +kernel
theorem dX11_closeText_13 : decode cX11_closeText 13 = .ok (.putfield 108, 3) := by decide +kernel
theorem dX11_closeText_16 : decode cX11_closeText 16 = .ok (.aload_n 0, 1) := by decide +kernel
theorem dX11_closeText_17 : decode cX11_closeText 17 = .ok (.aload_n 0, 1) := by decide +kernel
theorem dX11_closeText_18 : decode cX11_closeText 18 = .ok (.getfield 108, 3) := by decide +kernel
theorem dX11_closeText_21 : decode cX11_closeText 21 = .ok (.ifCond .ne 7, 3) := by decide +kernel
theorem dX11_closeText_24 : decode cX11_closeText 24 = .ok (.iconst (-1), 1) := by decide +kernel
theorem dX11_closeText_25 : decode cX11_closeText 25 = .ok (.goto 4, 3) := by decide +kernel
theorem dX11_closeText_28 : decode cX11_closeText 28 = .ok (.iload_n 1, 1) := by decide +kernel
theorem dX11_closeText_29 : decode cX11_closeText 29 = .ok (.putfield 111, 3) := by decide +kernel
theorem dX11_closeText_32 : decode cX11_closeText 32 = .ok (.return_, 1) := by decide +kernel
theorem dX11_fault_0 : decode cX11_fault 0 = .ok (.aload_n 0, 1) := by decide +kernel
theorem dX11_fault_1 : decode cX11_fault 1 = .ok (.getfield 108, 3) := by decide +kernel
theorem dX11_fault_4 : decode cX11_fault 4 = .ok (.ireturn, 1) := by decide +kernel
theorem dX11_faultLine_0 : decode cX11_faultLine 0 = .ok (.aload_n 0, 1) := by decide +kernel
theorem dX11_faultLine_1 : decode cX11_faultLine 1 = .ok (.getfield 111, 3) := by decide +kernel
theorem dX11_faultLine_4 : decode cX11_faultLine 4 = .ok (.ireturn, 1) := by decide +kernel
theorem dX11_key_0 : decode cX11_key 0 = .ok (.aload_n 0, 1) := by decide +kernel
theorem dX11_key_1 : decode cX11_key 1 = .ok (.iload_n 1, 1) := by decide +kernel
theorem dX11_key_2 : decode cX11_key 2 = .ok (.invokevirtual 153, 3) := by decide +kernel
theorem dX11_key_5 : decode cX11_key 5 = .ok (.ifCond .ne 5, 3) := by decide +kernel
theorem dX11_key_8 : decode cX11_key 8 = .ok (.iconst (-1), 1) := by decide +kernel
theorem dX11_key_9 : decode cX11_key 9 = .ok (.ireturn, 1) := by decide +kernel
theorem dX11_key_10 : decode cX11_key 10 = .ok (.iload_n 2, 1) := by decide +kernel
theorem dX11_key_11 : decode cX11_key 11 = .ok (.tableswitch 60 0 2 #[25, 38, 51], 25) := by decide +kernel
theorem dX11_key_36 : decode cX11_key 36 = .ok (.aload_n 0, 1) := by decide +kernel
theorem dX11_key_37 : decode cX11_key 37 = .ok (.getfield 20, 3) := by decide +kernel
theorem dX11_key_40 : decode cX11_key 40 = .ok (.getfield 33, 3) := by decide +kernel
theorem dX11_key_43 : decode cX11_key 43 = .ok (.getfield 157, 3) := by decide +kernel
theorem dX11_key_46 : decode cX11_key 46 = .ok (.iload_n 1, 1) := by decide +kernel
theorem dX11_key_47 : decode cX11_key 47 = .ok (.iaload, 1) := by decide +kernel
theorem dX11_key_48 : decode cX11_key 48 = .ok (.ireturn, 1) := by decide +kernel
theorem dX11_key_49 : decode cX11_key 49 = .ok (.aload_n 0, 1) := by decide +kernel
theorem dX11_key_50 : decode cX11_key 50 = .ok (.getfield 20, 3) := by decide +kernel
theorem dX11_key_53 : decode cX11_key 53 = .ok (.getfield 33, 3) := by decide +kernel
theorem dX11_key_56 : decode cX11_key 56 = .ok (.getfield 162, 3) := by decide +kernel
theorem dX11_key_59 : decode cX11_key 59 = .ok (.iload_n 1, 1) := by decide +kernel
theorem dX11_key_60 : decode cX11_key 60 = .ok (.iaload, 1) := by decide +kernel
theorem dX11_key_61 : decode cX11_key 61 = .ok (.ireturn, 1) := by decide +kernel
theorem dX11_key_62 : decode cX11_key 62 = .ok (.aload_n 0, 1) := by decide +kernel
theorem dX11_key_63 : decode cX11_key 63 = .ok (.getfield 44, 3) := by decide +kernel
theorem dX11_key_66 : decode cX11_key 66 = .ok (.iload_n 1, 1) := by decide +kernel
theorem dX11_key_67 : decode cX11_key 67 = .ok (.invokevirtual 165, 3) := by decide +kernel
theorem dX11_key_70 : decode cX11_key 70 = .ok (.ireturn, 1) := by decide +kernel
theorem dX11_key_71 : decode cX11_key 71 = .ok (.iconst (-1), 1) := by decide +kernel
theorem dX11_key_72 : decode cX11_key 72 = .ok (.ireturn, 1) := by decide +kernel
theorem dX11_digest_0 : decode cX11_digest 0 = .ok (.aload_n 0, 1) := by decide +kernel
theorem dX11_digest_1 : decode cX11_digest 1 = .ok (.iload_n 1, 1) := by decide +kernel
theorem dX11_digest_2 : decode cX11_digest 2 = .ok (.invokevirtual 153, 3) := by decide +kernel
theorem dX11_digest_5 : decode cX11_digest 5 = .ok (.ifCond .ne 13, 3) := by decide +kernel
theorem dX11_digest_8 : decode cX11_digest 8 = .ok (.new 169, 3) := by decide +kernel
theorem dX11_digest_11 : decode cX11_digest 11 = .ok (.dup, 1) := by decide +kernel
theorem dX11_digest_12 : decode cX11_digest 12 = .ok (.ldc 171, 2) := by decide +kernel
theorem dX11_digest_14 : decode cX11_digest 14 = .ok (.invokespecial 173, 3) := by decide +kernel
theorem dX11_digest_17 : decode cX11_digest 17 = .ok (.athrow, 1) := by decide +kernel
theorem dX11_digest_18 : decode cX11_digest 18 = .ok (.aload_n 0, 1) := by decide +kernel
theorem dX11_digest_19 : decode cX11_digest 19 = .ok (.getfield 20, 3) := by decide +kernel
theorem dX11_digest_22 : decode cX11_digest 22 = .ok (.getfield 33, 3) := by decide +kernel
theorem dX11_digest_25 : decode cX11_digest 25 = .ok (.getfield 176, 3) := by decide +kernel
theorem dX11_digest_28 : decode cX11_digest 28 = .ok (.iload_n 1, 1) := by decide +kernel
theorem dX11_digest_29 : decode cX11_digest 29 = .ok (.iaload, 1) := by decide +kernel
theorem dX11_digest_30 : decode cX11_digest 30 = .ok (.ireturn, 1) := by decide +kernel
theorem dX11_peer_0 : decode cX11_peer 0 = .ok (.aload_n 0, 1) := by decide +kernel
theorem dX11_peer_1 : decode cX11_peer 1 = .ok (.iload_n 1, 1) := by decide +kernel
theorem dX11_peer_2 : decode cX11_peer 2 = .ok (.invokevirtual 179, 3) := by decide +kernel
theorem dX11_peer_5 : decode cX11_peer 5 = .ok (.ifCond .ne 5, 3) := by decide +kernel
theorem dX11_peer_8 : decode cX11_peer 8 = .ok (.iconst (-1), 1) := by decide +kernel
theorem dX11_peer_9 : decode cX11_peer 9 = .ok (.ireturn, 1) := by decide +kernel
theorem dX11_peer_10 : decode cX11_peer 10 = .ok (.iload_n 2, 1) := by decide +kernel
theorem dX11_peer_11 : decode cX11_peer 11 = .ok (.tableswitch 145 0 6 #[41, 54, 63, 76, 110, 123, 132], 41) := by decide +kernel
theorem dX11_peer_52 : decode cX11_peer 52 = .ok (.aload_n 0, 1) := by decide +kernel
theorem dX11_peer_53 : decode cX11_peer 53 = .ok (.getfield 44, 3) := by decide +kernel
theorem dX11_peer_56 : decode cX11_peer 56 = .ok (.getfield 182, 3) := by decide +kernel
theorem dX11_peer_59 : decode cX11_peer 59 = .ok (.iload_n 1, 1) := by decide +kernel
theorem dX11_peer_60 : decode cX11_peer 60 = .ok (.aaload, 1) := by decide +kernel
theorem dX11_peer_61 : decode cX11_peer 61 = .ok (.getfield 186, 3) := by decide +kernel
theorem dX11_peer_64 : decode cX11_peer 64 = .ok (.ireturn, 1) := by decide +kernel
theorem dX11_peer_65 : decode cX11_peer 65 = .ok (.aload_n 0, 1) := by decide +kernel
theorem dX11_peer_66 : decode cX11_peer 66 = .ok (.getfield 44, 3) := by decide +kernel
theorem dX11_peer_69 : decode cX11_peer 69 = .ok (.iload_n 1, 1) := by decide +kernel
theorem dX11_peer_70 : decode cX11_peer 70 = .ok (.invokevirtual 191, 3) := by decide +kernel
theorem dX11_peer_73 : decode cX11_peer 73 = .ok (.ireturn, 1) := by decide +kernel
theorem dX11_peer_74 : decode cX11_peer 74 = .ok (.aload_n 0, 1) := by decide +kernel
theorem dX11_peer_75 : decode cX11_peer 75 = .ok (.getfield 44, 3) := by decide +kernel
theorem dX11_peer_78 : decode cX11_peer 78 = .ok (.getfield 182, 3) := by decide +kernel
theorem dX11_peer_81 : decode cX11_peer 81 = .ok (.iload_n 1, 1) := by decide +kernel
theorem dX11_peer_82 : decode cX11_peer 82 = .ok (.aaload, 1) := by decide +kernel
theorem dX11_peer_83 : decode cX11_peer 83 = .ok (.getfield 194, 3) := by decide +kernel
theorem dX11_peer_86 : decode cX11_peer 86 = .ok (.ireturn, 1) := by decide +kernel
theorem dX11_peer_87 : decode cX11_peer 87 = .ok (.aload_n 0, 1) := by decide +kernel
theorem dX11_peer_88 : decode cX11_peer 88 = .ok (.getfield 44, 3) := by decide +kernel
theorem dX11_peer_91 : decode cX11_peer 91 = .ok (.getfield 182, 3) := by decide +kernel
theorem dX11_peer_94 : decode cX11_peer 94 = .ok (.iload_n 1, 1) := by decide +kernel
theorem dX11_peer_95 : decode cX11_peer 95 = .ok (.aaload, 1) := by decide +kernel
theorem dX11_peer_96 : decode cX11_peer 96 = .ok (.getfield 194, 3) := by decide +kernel
theorem dX11_peer_99 : decode cX11_peer 99 = .ok (.ifCond .ne 7, 3) := by decide +kernel
theorem dX11_peer_102 : decode cX11_peer 102 = .ok (.iconst (-1), 1) := by decide +kernel
theorem dX11_peer_103 : decode cX11_peer 103 = .ok (.goto 17, 3) := by decide +kernel
theorem dX11_peer_106 : decode cX11_peer 106 = .ok (.aload_n 0, 1) := by decide +kernel
theorem dX11_peer_107 : decode cX11_peer 107 = .ok (.getfield 44, 3) := by decide +kernel
theorem dX11_peer_110 : decode cX11_peer 110 = .ok (.getfield 182, 3) := by decide +kernel
theorem dX11_peer_113 : decode cX11_peer 113 = .ok (.iload_n 1, 1) := by decide +kernel
theorem dX11_peer_114 : decode cX11_peer 114 = .ok (.aaload, 1) := by decide +kernel
theorem dX11_peer_115 : decode cX11_peer 115 = .ok (.getfield 197, 3) := by decide +kernel
theorem dX11_peer_118 : decode cX11_peer 118 = .ok (.iconst 0, 1) := by decide +kernel
theorem dX11_peer_119 : decode cX11_peer 119 = .ok (.iaload, 1) := by decide +kernel
theorem dX11_peer_120 : decode cX11_peer 120 = .ok (.ireturn, 1) := by decide +kernel
theorem dX11_peer_121 : decode cX11_peer 121 = .ok (.aload_n 0, 1) := by decide +kernel
theorem dX11_peer_122 : decode cX11_peer 122 = .ok (.getfield 20, 3) := by decide +kernel
theorem dX11_peer_125 : decode cX11_peer 125 = .ok (.getfield 37, 3) := by decide +kernel
theorem dX11_peer_128 : decode cX11_peer 128 = .ok (.getfield 200, 3) := by decide +kernel
theorem dX11_peer_131 : decode cX11_peer 131 = .ok (.iload_n 1, 1) := by decide +kernel
theorem dX11_peer_132 : decode cX11_peer 132 = .ok (.iaload, 1) := by decide +kernel
theorem dX11_peer_133 : decode cX11_peer 133 = .ok (.ireturn, 1) := by decide +kernel
theorem dX11_peer_134 : decode cX11_peer 134 = .ok (.aload_n 0, 1) := by decide +kernel
theorem dX11_peer_135 : decode cX11_peer 135 = .ok (.getfield 44, 3) := by decide +kernel
theorem dX11_peer_138 : decode cX11_peer 138 = .ok (.iload_n 1, 1) := by decide +kernel
theorem dX11_peer_139 : decode cX11_peer 139 = .ok (.invokevirtual 203, 3) := by decide +kernel
theorem dX11_peer_142 : decode cX11_peer 142 = .ok (.ireturn, 1) := by decide +kernel
theorem dX11_peer_143 : decode cX11_peer 143 = .ok (.aload_n 0, 1) := by decide +kernel
theorem dX11_peer_144 : decode cX11_peer 144 = .ok (.getfield 20, 3) := by decide +kernel
theorem dX11_peer_147 : decode cX11_peer 147 = .ok (.getfield 37, 3) := by decide +kernel
theorem dX11_peer_150 : decode cX11_peer 150 = .ok (.getfield 206, 3) := by decide +kernel
theorem dX11_peer_153 : decode cX11_peer 153 = .ok (.iload_n 1, 1) := by decide +kernel
theorem dX11_peer_154 : decode cX11_peer 154 = .ok (.iaload, 1) := by decide +kernel
theorem dX11_peer_155 : decode cX11_peer 155 = .ok (.ireturn, 1) := by decide +kernel
theorem dX11_peer_156 : decode cX11_peer 156 = .ok (.iconst (-1), 1) := by decide +kernel
theorem dX11_peer_157 : decode cX11_peer 157 = .ok (.ireturn, 1) := by decide +kernel
theorem dX11_root_0 : decode cX11_root 0 = .ok (.aload_n 0, 1) := by decide +kernel
theorem dX11_root_1 : decode cX11_root 1 = .ok (.iload_n 1, 1) := by decide +kernel
theorem dX11_root_2 : decode cX11_root 2 = .ok (.invokevirtual 179, 3) := by decide +kernel
theorem dX11_root_5 : decode cX11_root 5 = .ok (.ifCond .ne 13, 3) := by decide +kernel
theorem dX11_root_8 : decode cX11_root 8 = .ok (.new 169, 3) := by decide +kernel
theorem dX11_root_11 : decode cX11_root 11 = .ok (.dup, 1) := by decide +kernel
theorem dX11_root_12 : decode cX11_root 12 = .ok (.ldc 209, 2) := by decide +kernel
theorem dX11_root_14 : decode cX11_root 14 = .ok (.invokespecial 173, 3) := by decide +kernel
theorem dX11_root_17 : decode cX11_root 17 = .ok (.athrow, 1) := by decide +kernel
theorem dX11_root_18 : decode cX11_root 18 = .ok (.aload_n 0, 1) := by decide +kernel
theorem dX11_root_19 : decode cX11_root 19 = .ok (.getfield 44, 3) := by decide +kernel
theorem dX11_root_22 : decode cX11_root 22 = .ok (.iload_n 1, 1) := by decide +kernel
theorem dX11_root_23 : decode cX11_root 23 = .ok (.invokevirtual 211, 3) := by decide +kernel
theorem dX11_root_26 : decode cX11_root 26 = .ok (.ireturn, 1) := by decide +kernel
theorem dX11_entry_0 : decode cX11_entry 0 = .ok (.aload_n 0, 1) := by decide +kernel
theorem dX11_entry_1 : decode cX11_entry 1 = .ok (.iload_n 1, 1) := by decide +kernel
theorem dX11_entry_2 : decode cX11_entry 2 = .ok (.invokevirtual 179, 3) := by decide +kernel
theorem dX11_entry_5 : decode cX11_entry 5 = .ok (.ifCond .eq 35, 3) := by decide +kernel
theorem dX11_entry_8 : decode cX11_entry 8 = .ok (.aload_n 0, 1) := by decide +kernel
theorem dX11_entry_9 : decode cX11_entry 9 = .ok (.iload_n 2, 1) := by decide +kernel
theorem dX11_entry_10 : decode cX11_entry 10 = .ok (.invokevirtual 153, 3) := by decide +kernel
theorem dX11_entry_13 : decode cX11_entry 13 = .ok (.ifCond .eq 27, 3) := by decide +kernel
theorem dX11_entry_16 : decode cX11_entry 16 = .ok (.iload_n 3, 1) := by decide +kernel
theorem dX11_entry_17 : decode cX11_entry 17 = .ok (.ifCond .lt 23, 3) := by decide +kernel
theorem dX11_entry_20 : decode cX11_entry 20 = .ok (.iload_n 3, 1) := by decide +kernel
theorem dX11_entry_21 : decode cX11_entry 21 = .ok (.iconst 2, 1) := by decide +kernel
theorem dX11_entry_22 : decode cX11_entry 22 = .ok (.if_icmp .gt 18, 3) := by decide +kernel
theorem dX11_entry_25 : decode cX11_entry 25 = .ok (.aload_n 0, 1) := by decide +kernel
theorem dX11_entry_26 : decode cX11_entry 26 = .ok (.getfield 20, 3) := by decide +kernel
theorem dX11_entry_29 : decode cX11_entry 29 = .ok (.getfield 37, 3) := by decide +kernel
theorem dX11_entry_32 : decode cX11_entry 32 = .ok (.iload_n 1, 1) := by decide +kernel
theorem dX11_entry_33 : decode cX11_entry 33 = .ok (.iload_n 2, 1) := by decide +kernel
theorem dX11_entry_34 : decode cX11_entry 34 = .ok (.invokevirtual 214, 3) := by decide +kernel
theorem dX11_entry_37 : decode cX11_entry 37 = .ok (.ifCond .ne 13, 3) := by decide +kernel
theorem dX11_entry_40 : decode cX11_entry 40 = .ok (.new 169, 3) := by decide +kernel
theorem dX11_entry_43 : decode cX11_entry 43 = .ok (.dup, 1) := by decide +kernel
theorem dX11_entry_44 : decode cX11_entry 44 = .ok (.ldc 218, 2) := by decide +kernel
theorem dX11_entry_46 : decode cX11_entry 46 = .ok (.invokespecial 173, 3) := by decide +kernel
theorem dX11_entry_49 : decode cX11_entry 49 = .ok (.athrow, 1) := by decide +kernel
theorem dX11_entry_50 : decode cX11_entry 50 = .ok (.iload_n 3, 1) := by decide +kernel
theorem dX11_entry_51 : decode cX11_entry 51 = .ok (.ifCond .ne 16, 3) := by decide +kernel
theorem dX11_entry_54 : decode cX11_entry 54 = .ok (.aload_n 0, 1) := by decide +kernel
theorem dX11_entry_55 : decode cX11_entry 55 = .ok (.getfield 20, 3) := by decide +kernel
theorem dX11_entry_58 : decode cX11_entry 58 = .ok (.getfield 37, 3) := by decide +kernel
theorem dX11_entry_61 : decode cX11_entry 61 = .ok (.iload_n 1, 1) := by decide +kernel
theorem dX11_entry_62 : decode cX11_entry 62 = .ok (.iload_n 2, 1) := by decide +kernel
theorem dX11_entry_63 : decode cX11_entry 63 = .ok (.invokevirtual 220, 3) := by decide +kernel
theorem dX11_entry_66 : decode cX11_entry 66 = .ok (.ireturn, 1) := by decide +kernel
theorem dX11_entry_67 : decode cX11_entry 67 = .ok (.iload_n 3, 1) := by decide +kernel
theorem dX11_entry_68 : decode cX11_entry 68 = .ok (.iconst 1, 1) := by decide +kernel
theorem dX11_entry_69 : decode cX11_entry 69 = .ok (.if_icmp .ne 18, 3) := by decide +kernel
theorem dX11_entry_72 : decode cX11_entry 72 = .ok (.aload_n 0, 1) := by decide +kernel
theorem dX11_entry_73 : decode cX11_entry 73 = .ok (.getfield 20, 3) := by decide +kernel
theorem dX11_entry_76 : decode cX11_entry 76 = .ok (.getfield 37, 3) := by decide +kernel
theorem dX11_entry_79 : decode cX11_entry 79 = .ok (.iload_n 1, 1) := by decide +kernel
theorem dX11_entry_80 : decode cX11_entry 80 = .ok (.iload_n 2, 1) := by decide +kernel
theorem dX11_entry_81 : decode cX11_entry 81 = .ok (.invokevirtual 224, 3) := by decide +kernel
theorem dX11_entry_84 : decode cX11_entry 84 = .ok (.goto 22, 3) := by decide +kernel
theorem dX11_entry_87 : decode cX11_entry 87 = .ok (.aload_n 0, 1) := by decide +kernel
theorem dX11_entry_88 : decode cX11_entry 88 = .ok (.getfield 20, 3) := by decide +kernel
theorem dX11_entry_91 : decode cX11_entry 91 = .ok (.getfield 37, 3) := by decide +kernel
theorem dX11_entry_94 : decode cX11_entry 94 = .ok (.aload_n 0, 1) := by decide +kernel
theorem dX11_entry_95 : decode cX11_entry 95 = .ok (.getfield 20, 3) := by decide +kernel
theorem dX11_entry_98 : decode cX11_entry 98 = .ok (.getfield 33, 3) := by decide +kernel
theorem dX11_entry_101 : decode cX11_entry 101 = .ok (.iload_n 1, 1) := by decide +kernel
theorem dX11_entry_102 : decode cX11_entry 102 = .ok (.iload_n 2, 1) := by decide +kernel
theorem dX11_entry_103 : decode cX11_entry 103 = .ok (.invokevirtual 227, 3) := by decide +kernel
theorem dX11_entry_106 : decode cX11_entry 106 = .ok (.ireturn, 1) := by decide +kernel
theorem dX11_node_0 : decode cX11_node 0 = .ok (.aload_n 0, 1) := by decide +kernel
theorem dX11_node_1 : decode cX11_node 1 = .ok (.iload_n 1, 1) := by decide +kernel
theorem dX11_node_2 : decode cX11_node 2 = .ok (.invokevirtual 179, 3) := by decide +kernel
theorem dX11_node_5 : decode cX11_node 5 = .ok (.ifCond .eq 33, 3) := by decide +kernel
theorem dX11_node_8 : decode cX11_node 8 = .ok (.iload_n 2, 1) := by decide +kernel
theorem dX11_node_9 : decode cX11_node 9 = .ok (.ifCond .lt 29, 3) := by decide +kernel
theorem dX11_node_12 : decode cX11_node 12 = .ok (.iload_n 2, 1) := by decide +kernel
theorem dX11_node_13 : decode cX11_node 13 = .ok (.aload_n 0, 1) := by decide +kernel
theorem dX11_node_14 : decode cX11_node 14 = .ok (.getfield 44, 3) := by decide +kernel
theorem dX11_node_17 : decode cX11_node 17 = .ok (.getfield 182, 3) := by decide +kernel
theorem dX11_node_20 : decode cX11_node 20 = .ok (.iload_n 1, 1) := by decide +kernel
theorem dX11_node_21 : decode cX11_node 21 = .ok (.aaload, 1) := by decide +kernel
theorem dX11_node_22 : decode cX11_node 22 = .ok (.getfield 194, 3) := by decide +kernel
theorem dX11_node_25 : decode cX11_node 25 = .ok (.if_icmp .ge 13, 3) := by decide +kernel
theorem dX11_node_28 : decode cX11_node 28 = .ok (.iload_n 3, 1) := by decide +kernel
theorem dX11_node_29 : decode cX11_node 29 = .ok (.ifCond .lt 9, 3) := by decide +kernel
theorem dX11_node_32 : decode cX11_node 32 = .ok (.iload_n 3, 1) := by decide +kernel
theorem dX11_node_33 : decode cX11_node 33 = .ok (.bipush 6, 2) := by decide +kernel
theorem dX11_node_35 : decode cX11_node 35 = .ok (.if_icmp .le 13, 3) := by decide +kernel
theorem dX11_node_38 : decode cX11_node 38 = .ok (.new 169, 3) := by decide +kernel
theorem dX11_node_41 : decode cX11_node 41 = .ok (.dup, 1) := by decide +kernel
theorem dX11_node_42 : decode cX11_node 42 = .ok (.ldc 231, 2) := by decide +kernel
theorem dX11_node_44 : decode cX11_node 44 = .ok (.invokespecial 173, 3) := by decide +kernel
theorem dX11_node_47 : decode cX11_node 47 = .ok (.athrow, 1) := by decide +kernel
theorem dX11_node_48 : decode cX11_node 48 = .ok (.aload_n 0, 1) := by decide +kernel
theorem dX11_node_49 : decode cX11_node 49 = .ok (.getfield 44, 3) := by decide +kernel
theorem dX11_node_52 : decode cX11_node 52 = .ok (.getfield 182, 3) := by decide +kernel
theorem dX11_node_55 : decode cX11_node 55 = .ok (.iload_n 1, 1) := by decide +kernel
theorem dX11_node_56 : decode cX11_node 56 = .ok (.aaload, 1) := by decide +kernel
theorem dX11_node_57 : decode cX11_node 57 = .ok (.iload_n 2, 1) := by decide +kernel
theorem dX11_node_58 : decode cX11_node 58 = .ok (.iload_n 3, 1) := by decide +kernel
theorem dX11_node_59 : decode cX11_node 59 = .ok (.invokevirtual 233, 3) := by decide +kernel
theorem dX11_node_62 : decode cX11_node 62 = .ok (.ireturn, 1) := by decide +kernel
theorem dX11_now_0 : decode cX11_now 0 = .ok (.iload_n 1, 1) := by decide +kernel
theorem dX11_now_1 : decode cX11_now 1 = .ok (.tableswitch 84 0 4 #[35, 46, 57, 68, 76], 35) := by decide +kernel
theorem dX11_now_36 : decode cX11_now 36 = .ok (.aload_n 0, 1) := by decide +kernel
theorem dX11_now_37 : decode cX11_now 37 = .ok (.getfield 20, 3) := by decide +kernel
theorem dX11_now_40 : decode cX11_now 40 = .ok (.getfield 37, 3) := by decide +kernel
theorem dX11_now_43 : decode cX11_now 43 = .ok (.getfield 236, 3) := by decide +kernel
theorem dX11_now_46 : decode cX11_now 46 = .ok (.ireturn, 1) := by decide +kernel
theorem dX11_now_47 : decode cX11_now 47 = .ok (.aload_n 0, 1) := by decide +kernel
theorem dX11_now_48 : decode cX11_now 48 = .ok (.getfield 20, 3) := by decide +kernel
theorem dX11_now_51 : decode cX11_now 51 = .ok (.getfield 37, 3) := by decide +kernel
theorem dX11_now_54 : decode cX11_now 54 = .ok (.getfield 239, 3) := by decide +kernel
theorem dX11_now_57 : decode cX11_now 57 = .ok (.ireturn, 1) := by decide +kernel
theorem dX11_now_58 : decode cX11_now 58 = .ok (.aload_n 0, 1) := by decide +kernel
theorem dX11_now_59 : decode cX11_now 59 = .ok (.getfield 20, 3) := by decide +kernel
theorem dX11_now_62 : decode cX11_now 62 = .ok (.getfield 37, 3) := by decide +kernel
theorem dX11_now_65 : decode cX11_now 65 = .ok (.getfield 242, 3) := by decide +kernel
theorem dX11_now_68 : decode cX11_now 68 = .ok (.ireturn, 1) := by decide +kernel
theorem dX11_now_69 : decode cX11_now 69 = .ok (.aload_n 0, 1) := by decide +kernel
theorem dX11_now_70 : decode cX11_now 70 = .ok (.getfield 44, 3) := by decide +kernel
theorem dX11_now_73 : decode cX11_now 73 = .ok (.invokevirtual 245, 3) := by decide +kernel
theorem dX11_now_76 : decode cX11_now 76 = .ok (.ireturn, 1) := by decide +kernel
theorem dX11_now_77 : decode cX11_now 77 = .ok (.aload_n 0, 1) := by decide +kernel
theorem dX11_now_78 : decode cX11_now 78 = .ok (.getfield 44, 3) := by decide +kernel
theorem dX11_now_81 : decode cX11_now 81 = .ok (.invokevirtual 249, 3) := by decide +kernel
theorem dX11_now_84 : decode cX11_now 84 = .ok (.ireturn, 1) := by decide +kernel
theorem dX11_now_85 : decode cX11_now 85 = .ok (.iconst (-1), 1) := by decide +kernel
theorem dX11_now_86 : decode cX11_now 86 = .ok (.ireturn, 1) := by decide +kernel
theorem dX11_put_0 : decode cX11_put 0 = .ok (.aload_n 0, 1) := by decide +kernel
theorem dX11_put_1 : decode cX11_put 1 = .ok (.iload_n 1, 1) := by decide +kernel
theorem dX11_put_2 : decode cX11_put 2 = .ok (.invokevirtual 179, 3) := by decide +kernel
theorem dX11_put_5 : decode cX11_put 5 = .ok (.ifCond .eq 22, 3) := by decide +kernel
theorem dX11_put_8 : decode cX11_put 8 = .ok (.aload_n 0, 1) := by decide +kernel
theorem dX11_put_9 : decode cX11_put 9 = .ok (.iload_n 2, 1) := by decide +kernel
theorem dX11_put_10 : decode cX11_put 10 = .ok (.invokevirtual 153, 3) := by decide +kernel
theorem dX11_put_13 : decode cX11_put 13 = .ok (.ifCond .eq 14, 3) := by decide +kernel
theorem dX11_put_16 : decode cX11_put 16 = .ok (.iload_n 3, 1) := by decide +kernel
theorem dX11_put_17 : decode cX11_put 17 = .ok (.ifCond .lt 10, 3) := by decide +kernel
theorem dX11_put_20 : decode cX11_put 20 = .ok (.iload_n 3, 1) := by decide +kernel
theorem dX11_put_21 : decode cX11_put 21 = .ok (.sipush 999, 3) := by decide +kernel
theorem dX11_put_24 : decode cX11_put 24 = .ok (.if_icmp .le 5, 3) := by decide +kernel
theorem dX11_put_27 : decode cX11_put 27 = .ok (.iconst (-1), 1) := by decide +kernel
theorem dX11_put_28 : decode cX11_put 28 = .ok (.ireturn, 1) := by decide +kernel
theorem dX11_put_29 : decode cX11_put 29 = .ok (.aload_n 0, 1) := by decide +kernel
theorem dX11_put_30 : decode cX11_put 30 = .ok (.getfield 57, 3) := by decide +kernel
theorem dX11_put_33 : decode cX11_put 33 = .ok (.aload_n 0, 1) := by decide +kernel
theorem dX11_put_34 : decode cX11_put 34 = .ok (.getfield 20, 3) := by decide +kernel
theorem dX11_put_37 : decode cX11_put 37 = .ok (.getfield 37, 3) := by decide +kernel
theorem dX11_put_40 : decode cX11_put 40 = .ok (.invokevirtual 252, 3) := by decide +kernel
theorem dX11_put_43 : decode cX11_put 43 = .ok (.aload_n 0, 1) := by decide +kernel
theorem dX11_put_44 : decode cX11_put 44 = .ok (.aload_n 0, 1) := by decide +kernel
theorem dX11_put_45 : decode cX11_put 45 = .ok (.getfield 44, 3) := by decide +kernel
theorem dX11_put_48 : decode cX11_put 48 = .ok (.iload_n 1, 1) := by decide +kernel
theorem dX11_put_49 : decode cX11_put 49 = .ok (.iload_n 2, 1) := by decide +kernel
theorem dX11_put_50 : decode cX11_put 50 = .ok (.iload_n 3, 1) := by decide +kernel
theorem dX11_put_51 : decode cX11_put 51 = .ok (.invokevirtual 256, 3) := by decide +kernel
theorem dX11_put_54 : decode cX11_put 54 = .ok (.invokevirtual 260, 3) := by decide +kernel
theorem dX11_put_57 : decode cX11_put 57 = .ok (.ireturn, 1) := by decide +kernel
theorem dX11_drop_0 : decode cX11_drop 0 = .ok (.aload_n 0, 1) := by decide +kernel
theorem dX11_drop_1 : decode cX11_drop 1 = .ok (.iload_n 1, 1) := by decide +kernel
theorem dX11_drop_2 : decode cX11_drop 2 = .ok (.invokevirtual 179, 3) := by decide +kernel
theorem dX11_drop_5 : decode cX11_drop 5 = .ok (.ifCond .eq 11, 3) := by decide +kernel
theorem dX11_drop_8 : decode cX11_drop 8 = .ok (.aload_n 0, 1) := by decide +kernel
theorem dX11_drop_9 : decode cX11_drop 9 = .ok (.iload_n 2, 1) := by decide +kernel
theorem dX11_drop_10 : decode cX11_drop 10 = .ok (.invokevirtual 153, 3) := by decide +kernel
theorem dX11_drop_13 : decode cX11_drop 13 = .ok (.ifCond .ne 5, 3) := by decide +kernel
theorem dX11_drop_16 : decode cX11_drop 16 = .ok (.iconst (-1), 1) := by decide +kernel
theorem dX11_drop_17 : decode cX11_drop 17 = .ok (.ireturn, 1) := by decide +kernel
theorem dX11_drop_18 : decode cX11_drop 18 = .ok (.aload_n 0, 1) := by decide +kernel
theorem dX11_drop_19 : decode cX11_drop 19 = .ok (.getfield 57, 3) := by decide +kernel
theorem dX11_drop_22 : decode cX11_drop 22 = .ok (.aload_n 0, 1) := by decide +kernel
theorem dX11_drop_23 : decode cX11_drop 23 = .ok (.getfield 20, 3) := by decide +kernel
theorem dX11_drop_26 : decode cX11_drop 26 = .ok (.getfield 37, 3) := by decide +kernel
theorem dX11_drop_29 : decode cX11_drop 29 = .ok (.invokevirtual 252, 3) := by decide +kernel
theorem dX11_drop_32 : decode cX11_drop 32 = .ok (.aload_n 0, 1) := by decide +kernel
theorem dX11_drop_33 : decode cX11_drop 33 = .ok (.aload_n 0, 1) := by decide +kernel
theorem dX11_drop_34 : decode cX11_drop 34 = .ok (.getfield 44, 3) := by decide +kernel
theorem dX11_drop_37 : decode cX11_drop 37 = .ok (.iload_n 1, 1) := by decide +kernel
theorem dX11_drop_38 : decode cX11_drop 38 = .ok (.iload_n 2, 1) := by decide +kernel
theorem dX11_drop_39 : decode cX11_drop 39 = .ok (.invokevirtual 263, 3) := by decide +kernel
theorem dX11_drop_42 : decode cX11_drop 42 = .ok (.invokevirtual 260, 3) := by decide +kernel
theorem dX11_drop_45 : decode cX11_drop 45 = .ok (.ireturn, 1) := by decide +kernel
theorem dX11_pull_0 : decode cX11_pull 0 = .ok (.aload_n 0, 1) := by decide +kernel
theorem dX11_pull_1 : decode cX11_pull 1 = .ok (.iload_n 1, 1) := by decide +kernel
theorem dX11_pull_2 : decode cX11_pull 2 = .ok (.iload_n 2, 1) := by decide +kernel
theorem dX11_pull_3 : decode cX11_pull 3 = .ok (.invokevirtual 266, 3) := by decide +kernel
theorem dX11_pull_6 : decode cX11_pull 6 = .ok (.ifCond .ne 5, 3) := by decide +kernel
theorem dX11_pull_9 : decode cX11_pull 9 = .ok (.iconst (-1), 1) := by decide +kernel
theorem dX11_pull_10 : decode cX11_pull 10 = .ok (.ireturn, 1) := by decide +kernel
theorem dX11_pull_11 : decode cX11_pull 11 = .ok (.aload_n 0, 1) := by decide +kernel
theorem dX11_pull_12 : decode cX11_pull 12 = .ok (.getfield 57, 3) := by decide +kernel
theorem dX11_pull_15 : decode cX11_pull 15 = .ok (.aload_n 0, 1) := by decide +kernel
theorem dX11_pull_16 : decode cX11_pull 16 = .ok (.getfield 20, 3) := by decide +kernel
theorem dX11_pull_19 : decode cX11_pull 19 = .ok (.getfield 37, 3) := by decide +kernel
theorem dX11_pull_22 : decode cX11_pull 22 = .ok (.invokevirtual 252, 3) := by decide +kernel
theorem dX11_pull_25 : decode cX11_pull 25 = .ok (.aload_n 0, 1) := by decide +kernel
theorem dX11_pull_26 : decode cX11_pull 26 = .ok (.aload_n 0, 1) := by decide +kernel
theorem dX11_pull_27 : decode cX11_pull 27 = .ok (.getfield 44, 3) := by decide +kernel
theorem dX11_pull_30 : decode cX11_pull 30 = .ok (.iload_n 1, 1) := by decide +kernel
theorem dX11_pull_31 : decode cX11_pull 31 = .ok (.iload_n 2, 1) := by decide +kernel
theorem dX11_pull_32 : decode cX11_pull 32 = .ok (.invokevirtual 269, 3) := by decide +kernel
theorem dX11_pull_35 : decode cX11_pull 35 = .ok (.invokevirtual 260, 3) := by decide +kernel
theorem dX11_pull_38 : decode cX11_pull 38 = .ok (.ireturn, 1) := by decide +kernel
theorem dX11_cut_0 : decode cX11_cut 0 = .ok (.aload_n 0, 1) := by decide +kernel
theorem dX11_cut_1 : decode cX11_cut 1 = .ok (.iload_n 1, 1) := by decide +kernel
theorem dX11_cut_2 : decode cX11_cut 2 = .ok (.iload_n 2, 1) := by decide +kernel
theorem dX11_cut_3 : decode cX11_cut 3 = .ok (.invokevirtual 266, 3) := by decide +kernel
theorem dX11_cut_6 : decode cX11_cut 6 = .ok (.ifCond .ne 5, 3) := by decide +kernel
theorem dX11_cut_9 : decode cX11_cut 9 = .ok (.iconst (-1), 1) := by decide +kernel
theorem dX11_cut_10 : decode cX11_cut 10 = .ok (.ireturn, 1) := by decide +kernel
theorem dX11_cut_11 : decode cX11_cut 11 = .ok (.aload_n 0, 1) := by decide +kernel
theorem dX11_cut_12 : decode cX11_cut 12 = .ok (.getfield 57, 3) := by decide +kernel
theorem dX11_cut_15 : decode cX11_cut 15 = .ok (.aload_n 0, 1) := by decide +kernel
theorem dX11_cut_16 : decode cX11_cut 16 = .ok (.getfield 20, 3) := by decide +kernel
theorem dX11_cut_19 : decode cX11_cut 19 = .ok (.getfield 37, 3) := by decide +kernel
theorem dX11_cut_22 : decode cX11_cut 22 = .ok (.invokevirtual 252, 3) := by decide +kernel
theorem dX11_cut_25 : decode cX11_cut 25 = .ok (.aload_n 0, 1) := by decide +kernel
theorem dX11_cut_26 : decode cX11_cut 26 = .ok (.aload_n 0, 1) := by decide +kernel
theorem dX11_cut_27 : decode cX11_cut 27 = .ok (.getfield 44, 3) := by decide +kernel
theorem dX11_cut_30 : decode cX11_cut 30 = .ok (.iload_n 1, 1) := by decide +kernel
theorem dX11_cut_31 : decode cX11_cut 31 = .ok (.iload_n 2, 1) := by decide +kernel
theorem dX11_cut_32 : decode cX11_cut 32 = .ok (.invokevirtual 272, 3) := by decide +kernel
theorem dX11_cut_35 : decode cX11_cut 35 = .ok (.invokevirtual 260, 3) := by decide +kernel
theorem dX11_cut_38 : decode cX11_cut 38 = .ok (.ireturn, 1) := by decide +kernel
theorem dX11_heal_0 : decode cX11_heal 0 = .ok (.aload_n 0, 1) := by decide +kernel
theorem dX11_heal_1 : decode cX11_heal 1 = .ok (.iload_n 1, 1) := by decide +kernel
theorem dX11_heal_2 : decode cX11_heal 2 = .ok (.iload_n 2, 1) := by decide +kernel
theorem dX11_heal_3 : decode cX11_heal 3 = .ok (.invokevirtual 266, 3) := by decide +kernel
theorem dX11_heal_6 : decode cX11_heal 6 = .ok (.ifCond .ne 5, 3) := by decide +kernel
theorem dX11_heal_9 : decode cX11_heal 9 = .ok (.iconst (-1), 1) := by decide +kernel
theorem dX11_heal_10 : decode cX11_heal 10 = .ok (.ireturn, 1) := by decide +kernel
theorem dX11_heal_11 : decode cX11_heal 11 = .ok (.aload_n 0, 1) := by decide +kernel
theorem dX11_heal_12 : decode cX11_heal 12 = .ok (.getfield 57, 3) := by decide +kernel
theorem dX11_heal_15 : decode cX11_heal 15 = .ok (.aload_n 0, 1) := by decide +kernel
theorem dX11_heal_16 : decode cX11_heal 16 = .ok (.getfield 20, 3) := by decide +kernel
theorem dX11_heal_19 : decode cX11_heal 19 = .ok (.getfield 37, 3) := by decide +kernel
theorem dX11_heal_22 : decode cX11_heal 22 = .ok (.invokevirtual 252, 3) := by decide +kernel
theorem dX11_heal_25 : decode cX11_heal 25 = .ok (.aload_n 0, 1) := by decide +kernel
theorem dX11_heal_26 : decode cX11_heal 26 = .ok (.aload_n 0, 1) := by decide +kernel
theorem dX11_heal_27 : decode cX11_heal 27 = .ok (.getfield 44, 3) := by decide +kernel
theorem dX11_heal_30 : decode cX11_heal 30 = .ok (.iload_n 1, 1) := by decide +kernel
theorem dX11_heal_31 : decode cX11_heal 31 = .ok (.iload_n 2, 1) := by decide +kernel
theorem dX11_heal_32 : decode cX11_heal 32 = .ok (.invokevirtual 275, 3) := by decide +kernel
theorem dX11_heal_35 : decode cX11_heal 35 = .ok (.invokevirtual 260, 3) := by decide +kernel
theorem dX11_heal_38 : decode cX11_heal 38 = .ok (.ireturn, 1) := by decide +kernel
theorem dX11_keepIfDone_0 : decode cX11_keepIfDone 0 = .ok (.iload_n 1, 1) := by decide +kernel
theorem dX11_keepIfDone_1 : decode cX11_keepIfDone 1 = .ok (.ifCond .ne 10, 3) := by decide +kernel
theorem dX11_keepIfDone_4 : decode cX11_keepIfDone 4 = .ok (.aload_n 0, 1) := by decide +kernel
theorem dX11_keepIfDone_5 : decode cX11_keepIfDone 5 = .ok (.getfield 57, 3) := by decide +kernel
theorem dX11_keepIfDone_8 : decode cX11_keepIfDone 8 = .ok (.invokevirtual 278, 3) := by decide +kernel
theorem dX11_keepIfDone_11 : decode cX11_keepIfDone 11 = .ok (.iload_n 1, 1) := by decide +kernel
theorem dX11_keepIfDone_12 : decode cX11_keepIfDone 12 = .ok (.ireturn, 1) := by decide +kernel
theorem dX11_undo_0 : decode cX11_undo 0 = .ok (.aload_n 0, 1) := by decide +kernel
theorem dX11_undo_1 : decode cX11_undo 1 = .ok (.getfield 57, 3) := by decide +kernel
theorem dX11_undo_4 : decode cX11_undo 4 = .ok (.getfield 281, 3) := by decide +kernel
theorem dX11_undo_7 : decode cX11_undo 7 = .ok (.ifCond .ne 5, 3) := by decide +kernel
theorem dX11_undo_10 : decode cX11_undo 10 = .ok (.iconst (-1), 1) := by decide +kernel
theorem dX11_undo_11 : decode cX11_undo 11 = .ok (.ireturn, 1) := by decide +kernel
theorem dX11_undo_12 : decode cX11_undo 12 = .ok (.aload_n 0, 1) := by decide +kernel
theorem dX11_undo_13 : decode cX11_undo 13 = .ok (.getfield 57, 3) := by decide +kernel
theorem dX11_undo_16 : decode cX11_undo 16 = .ok (.aload_n 0, 1) := by decide +kernel
theorem dX11_undo_17 : decode cX11_undo 17 = .ok (.getfield 20, 3) := by decide +kernel
theorem dX11_undo_20 : decode cX11_undo 20 = .ok (.getfield 37, 3) := by decide +kernel
theorem dX11_undo_23 : decode cX11_undo 23 = .ok (.invokevirtual 284, 3) := by decide +kernel
theorem dX11_undo_26 : decode cX11_undo 26 = .ok (.aload_n 0, 1) := by decide +kernel
theorem dX11_undo_27 : decode cX11_undo 27 = .ok (.getfield 44, 3) := by decide +kernel
theorem dX11_undo_30 : decode cX11_undo 30 = .ok (.invokevirtual 148, 3) := by decide +kernel
theorem dX11_undo_33 : decode cX11_undo 33 = .ok (.aload_n 0, 1) := by decide +kernel
theorem dX11_undo_34 : decode cX11_undo 34 = .ok (.getfield 57, 3) := by decide +kernel
theorem dX11_undo_37 : decode cX11_undo 37 = .ok (.getfield 281, 3) := by decide +kernel
theorem dX11_undo_40 : decode cX11_undo 40 = .ok (.ireturn, 1) := by decide +kernel
theorem dX11_visits_0 : decode cX11_visits 0 = .ok (.aload_n 0, 1) := by decide +kernel
theorem dX11_visits_1 : decode cX11_visits 1 = .ok (.iload_n 1, 1) := by decide +kernel
theorem dX11_visits_2 : decode cX11_visits 2 = .ok (.iload_n 2, 1) := by decide +kernel
theorem dX11_visits_3 : decode cX11_visits 3 = .ok (.invokevirtual 266, 3) := by decide +kernel
theorem dX11_visits_6 : decode cX11_visits 6 = .ok (.ifCond .eq 18, 3) := by decide +kernel
theorem dX11_visits_9 : decode cX11_visits 9 = .ok (.aload_n 0, 1) := by decide +kernel
theorem dX11_visits_10 : decode cX11_visits 10 = .ok (.getfield 44, 3) := by decide +kernel
theorem dX11_visits_13 : decode cX11_visits 13 = .ok (.iload_n 1, 1) := by decide +kernel
theorem dX11_visits_14 : decode cX11_visits 14 = .ok (.iload_n 2, 1) := by decide +kernel
theorem dX11_visits_15 : decode cX11_visits 15 = .ok (.invokevirtual 287, 3) := by decide +kernel
theorem dX11_visits_18 : decode cX11_visits 18 = .ok (.invokestatic 290, 3) := by decide +kernel
theorem dX11_visits_21 : decode cX11_visits 21 = .ok (.goto 4, 3) := by decide +kernel
theorem dX11_visits_24 : decode cX11_visits 24 = .ok (.iconst (-1), 1) := by decide +kernel
theorem dX11_visits_25 : decode cX11_visits 25 = .ok (.ireturn, 1) := by decide +kernel
theorem dX11_differs_0 : decode cX11_differs 0 = .ok (.aload_n 0, 1) := by decide +kernel
theorem dX11_differs_1 : decode cX11_differs 1 = .ok (.iload_n 1, 1) := by decide +kernel
theorem dX11_differs_2 : decode cX11_differs 2 = .ok (.iload_n 2, 1) := by decide +kernel
theorem dX11_differs_3 : decode cX11_differs 3 = .ok (.invokevirtual 266, 3) := by decide +kernel
theorem dX11_differs_6 : decode cX11_differs 6 = .ok (.ifCond .eq 15, 3) := by decide +kernel
theorem dX11_differs_9 : decode cX11_differs 9 = .ok (.aload_n 0, 1) := by decide +kernel
theorem dX11_differs_10 : decode cX11_differs 10 = .ok (.getfield 44, 3) := by decide +kernel
theorem dX11_differs_13 : decode cX11_differs 13 = .ok (.iload_n 1, 1) := by decide +kernel
theorem dX11_differs_14 : decode cX11_differs 14 = .ok (.iload_n 2, 1) := by decide +kernel
theorem dX11_differs_15 : decode cX11_differs 15 = .ok (.invokevirtual 295, 3) := by decide +kernel
theorem dX11_differs_18 : decode cX11_differs 18 = .ok (.goto 4, 3) := by decide +kernel
theorem dX11_differs_21 : decode cX11_differs 21 = .ok (.iconst (-1), 1) := by decide +kernel
theorem dX11_differs_22 : decode cX11_differs 22 = .ok (.ireturn, 1) := by decide +kernel
theorem dX11_offers_0 : decode cX11_offers 0 = .ok (.aload_n 0, 1) := by decide +kernel
theorem dX11_offers_1 : decode cX11_offers 1 = .ok (.iload_n 1, 1) := by decide +kernel
theorem dX11_offers_2 : decode cX11_offers 2 = .ok (.iload_n 2, 1) := by decide +kernel
theorem dX11_offers_3 : decode cX11_offers 3 = .ok (.invokevirtual 266, 3) := by decide +kernel
theorem dX11_offers_6 : decode cX11_offers 6 = .ok (.ifCond .ne 5, 3) := by decide +kernel
theorem dX11_offers_9 : decode cX11_offers 9 = .ok (.iconst (-1), 1) := by decide +kernel
theorem dX11_offers_10 : decode cX11_offers 10 = .ok (.ireturn, 1) := by decide +kernel
theorem dX11_offers_11 : decode cX11_offers 11 = .ok (.aload_n 0, 1) := by decide +kernel
theorem dX11_offers_12 : decode cX11_offers 12 = .ok (.aload_n 0, 1) := by decide +kernel
theorem dX11_offers_13 : decode cX11_offers 13 = .ok (.getfield 44, 3) := by decide +kernel
theorem dX11_offers_16 : decode cX11_offers 16 = .ok (.iload_n 1, 1) := by decide +kernel
theorem dX11_offers_17 : decode cX11_offers 17 = .ok (.iload_n 2, 1) := by decide +kernel
theorem dX11_offers_18 : decode cX11_offers 18 = .ok (.invokevirtual 298, 3) := by decide +kernel
theorem dX11_offers_21 : decode cX11_offers 21 = .ok (.putfield 99, 3) := by decide +kernel
theorem dX11_offers_24 : decode cX11_offers 24 = .ok (.aload_n 0, 1) := by decide +kernel
theorem dX11_offers_25 : decode cX11_offers 25 = .ok (.getfield 44, 3) := by decide +kernel
theorem dX11_offers_28 : decode cX11_offers 28 = .ok (.getfield 301, 3) := by decide +kernel
theorem dX11_offers_31 : decode cX11_offers 31 = .ok (.iconst 0, 1) := by decide +kernel
theorem dX11_offers_32 : decode cX11_offers 32 = .ok (.aload_n 0, 1) := by decide +kernel
theorem dX11_offers_33 : decode cX11_offers 33 = .ok (.getfield 95, 3) := by decide +kernel
theorem dX11_offers_36 : decode cX11_offers 36 = .ok (.iconst 0, 1) := by decide +kernel
theorem dX11_offers_37 : decode cX11_offers 37 = .ok (.aload_n 0, 1) := by decide +kernel
theorem dX11_offers_38 : decode cX11_offers 38 = .ok (.getfield 99, 3) := by decide +kernel
theorem dX11_offers_41 : decode cX11_offers 41 = .ok (.invokestatic 304, 3) := by decide +kernel
theorem dX11_offers_44 : decode cX11_offers 44 = .ok (.aload_n 0, 1) := by decide +kernel
theorem dX11_offers_45 : decode cX11_offers 45 = .ok (.getfield 99, 3) := by decide +kernel
theorem dX11_offers_48 : decode cX11_offers 48 = .ok (.ireturn, 1) := by decide +kernel
theorem dX11_offerAt_0 : decode cX11_offerAt 0 = .ok (.iload_n 1, 1) := by decide +kernel
theorem dX11_offerAt_1 : decode cX11_offerAt 1 = .ok (.ifCond .lt 20, 3) := by decide +kernel
theorem dX11_offerAt_4 : decode cX11_offerAt 4 = .ok (.iload_n 1, 1) := by decide +kernel
theorem dX11_offerAt_5 : decode cX11_offerAt 5 = .ok (.aload_n 0, 1) := by decide +kernel
theorem dX11_offerAt_6 : decode cX11_offerAt 6 = .ok (.getfield 99, 3) := by decide +kernel
theorem dX11_offerAt_9 : decode cX11_offerAt 9 = .ok (.if_icmp .ge 12, 3) := by decide +kernel
theorem dX11_offerAt_12 : decode cX11_offerAt 12 = .ok (.aload_n 0, 1) := by decide +kernel
theorem dX11_offerAt_13 : decode cX11_offerAt 13 = .ok (.getfield 95, 3) := by decide +kernel
theorem dX11_offerAt_16 : decode cX11_offerAt 16 = .ok (.iload_n 1, 1) := by decide +kernel
theorem dX11_offerAt_17 : decode cX11_offerAt 17 = .ok (.iaload, 1) := by decide +kernel
theorem dX11_offerAt_18 : decode cX11_offerAt 18 = .ok (.goto 4, 3) := by decide +kernel
theorem dX11_offerAt_21 : decode cX11_offerAt 21 = .ok (.iconst (-1), 1) := by decide +kernel
theorem dX11_offerAt_22 : decode cX11_offerAt 22 = .ok (.ireturn, 1) := by decide +kernel
theorem dX11_fresh_0 : decode cX11_fresh 0 = .ok (.aload_n 0, 1) := by decide +kernel
theorem dX11_fresh_1 : decode cX11_fresh 1 = .ok (.iload_n 1, 1) := by decide +kernel
theorem dX11_fresh_2 : decode cX11_fresh 2 = .ok (.invokevirtual 179, 3) := by decide +kernel
theorem dX11_fresh_5 : decode cX11_fresh 5 = .ok (.ifCond .eq 22, 3) := by decide +kernel
theorem dX11_fresh_8 : decode cX11_fresh 8 = .ok (.aload_n 0, 1) := by decide +kernel
theorem dX11_fresh_9 : decode cX11_fresh 9 = .ok (.iload_n 2, 1) := by decide +kernel
theorem dX11_fresh_10 : decode cX11_fresh 10 = .ok (.invokevirtual 153, 3) := by decide +kernel
theorem dX11_fresh_13 : decode cX11_fresh 13 = .ok (.ifCond .eq 14, 3) := by decide +kernel
theorem dX11_fresh_16 : decode cX11_fresh 16 = .ok (.iload_n 3, 1) := by decide +kernel
theorem dX11_fresh_17 : decode cX11_fresh 17 = .ok (.ifCond .lt 10, 3) := by decide +kernel
theorem dX11_fresh_20 : decode cX11_fresh 20 = .ok (.iload_n 3, 1) := by decide +kernel
theorem dX11_fresh_21 : decode cX11_fresh 21 = .ok (.sipush 999, 3) := by decide +kernel
theorem dX11_fresh_24 : decode cX11_fresh 24 = .ok (.if_icmp .le 5, 3) := by decide +kernel
theorem dX11_fresh_27 : decode cX11_fresh 27 = .ok (.iconst (-1), 1) := by decide +kernel
theorem dX11_fresh_28 : decode cX11_fresh 28 = .ok (.ireturn, 1) := by decide +kernel
theorem dX11_fresh_29 : decode cX11_fresh 29 = .ok (.aload_n 0, 1) := by decide +kernel
theorem dX11_fresh_30 : decode cX11_fresh 30 = .ok (.getfield 51, 3) := by decide +kernel
theorem dX11_fresh_33 : decode cX11_fresh 33 = .ok (.aload_n 0, 1) := by decide +kernel
theorem dX11_fresh_34 : decode cX11_fresh 34 = .ok (.getfield 44, 3) := by decide +kernel
theorem dX11_fresh_37 : decode cX11_fresh 37 = .ok (.invokevirtual 310, 3) := by decide +kernel
theorem dX11_fresh_40 : decode cX11_fresh 40 = .ok (.aload_n 0, 1) := by decide +kernel
theorem dX11_fresh_41 : decode cX11_fresh 41 = .ok (.getfield 51, 3) := by decide +kernel
theorem dX11_fresh_44 : decode cX11_fresh 44 = .ok (.iload_n 1, 1) := by decide +kernel
theorem dX11_fresh_45 : decode cX11_fresh 45 = .ok (.iload_n 2, 1) := by decide +kernel
theorem dX11_fresh_46 : decode cX11_fresh 46 = .ok (.iload_n 3, 1) := by decide +kernel
theorem dX11_fresh_47 : decode cX11_fresh 47 = .ok (.invokevirtual 256, 3) := by decide +kernel
theorem dX11_fresh_50 : decode cX11_fresh 50 = .ok (.ifCond .eq 5, 3) := by decide +kernel
theorem dX11_fresh_53 : decode cX11_fresh 53 = .ok (.iconst 0, 1) := by decide +kernel
theorem dX11_fresh_54 : decode cX11_fresh 54 = .ok (.ireturn, 1) := by decide +kernel
theorem dX11_fresh_55 : decode cX11_fresh 55 = .ok (.aload_n 0, 1) := by decide +kernel
theorem dX11_fresh_56 : decode cX11_fresh 56 = .ok (.getfield 51, 3) := by decide +kernel
theorem dX11_fresh_59 : decode cX11_fresh 59 = .ok (.getfield 182, 3) := by decide +kernel
theorem dX11_fresh_62 : decode cX11_fresh 62 = .ok (.iload_n 1, 1) := by decide +kernel
theorem dX11_fresh_63 : decode cX11_fresh 63 = .ok (.aaload, 1) := by decide +kernel
theorem dX11_fresh_64 : decode cX11_fresh 64 = .ok (.aload_n 0, 1) := by decide +kernel
theorem dX11_fresh_65 : decode cX11_fresh 65 = .ok (.getfield 44, 3) := by decide +kernel
theorem dX11_fresh_68 : decode cX11_fresh 68 = .ok (.getfield 182, 3) := by decide +kernel
theorem dX11_fresh_71 : decode cX11_fresh 71 = .ok (.iload_n 1, 1) := by decide +kernel
theorem dX11_fresh_72 : decode cX11_fresh 72 = .ok (.aaload, 1) := by decide +kernel
theorem dX11_fresh_73 : decode cX11_fresh 73 = .ok (.invokevirtual 313, 3) := by decide +kernel
theorem dX11_fresh_76 : decode cX11_fresh 76 = .ok (.ireturn, 1) := by decide +kernel
theorem dX11_pulls_0 : decode cX11_pulls 0 = .ok (.aload_n 0, 1) := by decide +kernel
theorem dX11_pulls_1 : decode cX11_pulls 1 = .ok (.iload_n 1, 1) := by decide +kernel
theorem dX11_pulls_2 : decode cX11_pulls 2 = .ok (.iload_n 2, 1) := by decide +kernel
theorem dX11_pulls_3 : decode cX11_pulls 3 = .ok (.invokevirtual 266, 3) := by decide +kernel
theorem dX11_pulls_6 : decode cX11_pulls 6 = .ok (.ifCond .eq 18, 3) := by decide +kernel
theorem dX11_pulls_9 : decode cX11_pulls 9 = .ok (.aload_n 0, 1) := by decide +kernel
theorem dX11_pulls_10 : decode cX11_pulls 10 = .ok (.getfield 20, 3) := by decide +kernel
theorem dX11_pulls_13 : decode cX11_pulls 13 = .ok (.getfield 37, 3) := by decide +kernel
theorem dX11_pulls_16 : decode cX11_pulls 16 = .ok (.iload_n 1, 1) := by decide +kernel
theorem dX11_pulls_17 : decode cX11_pulls 17 = .ok (.iload_n 2, 1) := by decide +kernel
theorem dX11_pulls_18 : decode cX11_pulls 18 = .ok (.invokevirtual 317, 3) := by decide +kernel
theorem dX11_pulls_21 : decode cX11_pulls 21 = .ok (.ifCond .eq 5, 3) := by decide +kernel
theorem dX11_pulls_24 : decode cX11_pulls 24 = .ok (.iconst (-1), 1) := by decide +kernel
theorem dX11_pulls_25 : decode cX11_pulls 25 = .ok (.ireturn, 1) := by decide +kernel
theorem dX11_pulls_26 : decode cX11_pulls 26 = .ok (.aload_n 0, 1) := by decide +kernel
theorem dX11_pulls_27 : decode cX11_pulls 27 = .ok (.getfield 51, 3) := by decide +kernel
theorem dX11_pulls_30 : decode cX11_pulls 30 = .ok (.aload_n 0, 1) := by decide +kernel
theorem dX11_pulls_31 : decode cX11_pulls 31 = .ok (.getfield 44, 3) := by decide +kernel
theorem dX11_pulls_34 : decode cX11_pulls 34 = .ok (.invokevirtual 310, 3) := by decide +kernel
theorem dX11_pulls_37 : decode cX11_pulls 37 = .ok (.iconst 0, 1) := by decide +kernel
theorem dX11_pulls_38 : decode cX11_pulls 38 = .ok (.istore_n 3, 1) := by decide +kernel
theorem dX11_pulls_39 : decode cX11_pulls 39 = .ok (.iload_n 3, 1) := by decide +kernel
theorem dX11_pulls_40 : decode cX11_pulls 40 = .ok (.bipush 100, 2) := by decide +kernel
theorem dX11_pulls_42 : decode cX11_pulls 42 = .ok (.if_icmp .ge 59, 3) := by decide +kernel
theorem dX11_pulls_45 : decode cX11_pulls 45 = .ok (.aload_n 0, 1) := by decide +kernel
theorem dX11_pulls_46 : decode cX11_pulls 46 = .ok (.getfield 51, 3) := by decide +kernel
theorem dX11_pulls_49 : decode cX11_pulls 49 = .ok (.iload_n 1, 1) := by decide +kernel
theorem dX11_pulls_50 : decode cX11_pulls 50 = .ok (.invokevirtual 211, 3) := by decide +kernel
theorem dX11_pulls_53 : decode cX11_pulls 53 = .ok (.aload_n 0, 1) := by decide +kernel
theorem dX11_pulls_54 : decode cX11_pulls 54 = .ok (.getfield 51, 3) := by decide +kernel
theorem dX11_pulls_57 : decode cX11_pulls 57 = .ok (.iload_n 2, 1) := by decide +kernel
theorem dX11_pulls_58 : decode cX11_pulls 58 = .ok (.invokevirtual 211, 3) := by decide +kernel
theorem dX11_pulls_61 : decode cX11_pulls 61 = .ok (.if_icmp .ne 5, 3) := by decide +kernel
theorem dX11_pulls_64 : decode cX11_pulls 64 = .ok (.iload_n 3, 1) := by decide +kernel
theorem dX11_pulls_65 : decode cX11_pulls 65 = .ok (.ireturn, 1) := by decide +kernel
theorem dX11_pulls_66 : decode cX11_pulls 66 = .ok (.iload_n 3, 1) := by decide +kernel
theorem dX11_pulls_67 : decode cX11_pulls 67 = .ok (.iconst 2, 1) := by decide +kernel
theorem dX11_pulls_68 : decode cX11_pulls 68 = .ok (.irem, 1) := by decide +kernel
theorem dX11_pulls_69 : decode cX11_pulls 69 = .ok (.ifCond .ne 16, 3) := by decide +kernel
theorem dX11_pulls_72 : decode cX11_pulls 72 = .ok (.aload_n 0, 1) := by decide +kernel
theorem dX11_pulls_73 : decode cX11_pulls 73 = .ok (.getfield 51, 3) := by decide +kernel
theorem dX11_pulls_76 : decode cX11_pulls 76 = .ok (.iload_n 1, 1) := by decide +kernel
theorem dX11_pulls_77 : decode cX11_pulls 77 = .ok (.iload_n 2, 1) := by decide +kernel
theorem dX11_pulls_78 : decode cX11_pulls 78 = .ok (.invokevirtual 269, 3) := by decide +kernel
theorem dX11_pulls_81 : decode cX11_pulls 81 = .ok (.pop, 1) := by decide +kernel
theorem dX11_pulls_82 : decode cX11_pulls 82 = .ok (.goto 13, 3) := by decide +kernel
theorem dX11_pulls_85 : decode cX11_pulls 85 = .ok (.aload_n 0, 1) := by decide +kernel
theorem dX11_pulls_86 : decode cX11_pulls 86 = .ok (.getfield 51, 3) := by decide +kernel
theorem dX11_pulls_89 : decode cX11_pulls 89 = .ok (.iload_n 2, 1) := by decide +kernel
theorem dX11_pulls_90 : decode cX11_pulls 90 = .ok (.iload_n 1, 1) := by decide +kernel
theorem dX11_pulls_91 : decode cX11_pulls 91 = .ok (.invokevirtual 269, 3) := by decide +kernel
theorem dX11_pulls_94 : decode cX11_pulls 94 = .ok (.pop, 1) := by decide +kernel
theorem dX11_pulls_95 : decode cX11_pulls 95 = .ok (.iinc 3 1, 3) := by decide +kernel
theorem dX11_pulls_98 : decode cX11_pulls 98 = .ok (.goto (-59), 3) := by decide +kernel
theorem dX11_pulls_101 : decode cX11_pulls 101 = .ok (.aload_n 0, 1) := by decide +kernel
theorem dX11_pulls_102 : decode cX11_pulls 102 = .ok (.getfield 51, 3) := by decide +kernel
theorem dX11_pulls_105 : decode cX11_pulls 105 = .ok (.iload_n 1, 1) := by decide +kernel
theorem dX11_pulls_106 : decode cX11_pulls 106 = .ok (.invokevirtual 211, 3) := by decide +kernel
theorem dX11_pulls_109 : decode cX11_pulls 109 = .ok (.aload_n 0, 1) := by decide +kernel
theorem dX11_pulls_110 : decode cX11_pulls 110 = .ok (.getfield 51, 3) := by decide +kernel
theorem dX11_pulls_113 : decode cX11_pulls 113 = .ok (.iload_n 2, 1) := by decide +kernel
theorem dX11_pulls_114 : decode cX11_pulls 114 = .ok (.invokevirtual 211, 3) := by decide +kernel
theorem dX11_pulls_117 : decode cX11_pulls 117 = .ok (.if_icmp .ne 8, 3) := by decide +kernel
theorem dX11_pulls_120 : decode cX11_pulls 120 = .ok (.bipush 100, 2) := by decide +kernel
theorem dX11_pulls_122 : decode cX11_pulls 122 = .ok (.goto 4, 3) := by decide +kernel
theorem dX11_pulls_125 : decode cX11_pulls 125 = .ok (.iconst (-1), 1) := by decide +kernel
theorem dX11_pulls_126 : decode cX11_pulls 126 = .ok (.ireturn, 1) := by decide +kernel
theorem dX11_path_0 : decode cX11_path 0 = .ok (.aload_n 0, 1) := by decide +kernel
theorem dX11_path_1 : decode cX11_path 1 = .ok (.iload_n 1, 1) := by decide +kernel
theorem dX11_path_2 : decode cX11_path 2 = .ok (.invokevirtual 179, 3) := by decide +kernel
theorem dX11_path_5 : decode cX11_path 5 = .ok (.ifCond .eq 26, 3) := by decide +kernel
theorem dX11_path_8 : decode cX11_path 8 = .ok (.aload_n 0, 1) := by decide +kernel
theorem dX11_path_9 : decode cX11_path 9 = .ok (.iload_n 2, 1) := by decide +kernel
theorem dX11_path_10 : decode cX11_path 10 = .ok (.invokevirtual 153, 3) := by decide +kernel
theorem dX11_path_13 : decode cX11_path 13 = .ok (.ifCond .eq 18, 3) := by decide +kernel
theorem dX11_path_16 : decode cX11_path 16 = .ok (.aload_n 0, 1) := by decide +kernel
theorem dX11_path_17 : decode cX11_path 17 = .ok (.getfield 20, 3) := by decide +kernel
theorem dX11_path_20 : decode cX11_path 20 = .ok (.getfield 37, 3) := by decide +kernel
theorem dX11_path_23 : decode cX11_path 23 = .ok (.iload_n 1, 1) := by decide +kernel
theorem dX11_path_24 : decode cX11_path 24 = .ok (.iload_n 2, 1) := by decide +kernel
theorem dX11_path_25 : decode cX11_path 25 = .ok (.invokevirtual 214, 3) := by decide +kernel
theorem dX11_path_28 : decode cX11_path 28 = .ok (.ifCond .ne 5, 3) := by decide +kernel
theorem dX11_path_31 : decode cX11_path 31 = .ok (.iconst (-1), 1) := by decide +kernel
theorem dX11_path_32 : decode cX11_path 32 = .ok (.ireturn, 1) := by decide +kernel
theorem dX11_path_33 : decode cX11_path 33 = .ok (.aload_n 0, 1) := by decide +kernel
theorem dX11_path_34 : decode cX11_path 34 = .ok (.getfield 44, 3) := by decide +kernel
theorem dX11_path_37 : decode cX11_path 37 = .ok (.getfield 182, 3) := by decide +kernel
theorem dX11_path_40 : decode cX11_path 40 = .ok (.iload_n 1, 1) := by decide +kernel
theorem dX11_path_41 : decode cX11_path 41 = .ok (.aaload, 1) := by decide +kernel
theorem dX11_path_42 : decode cX11_path 42 = .ok (.iload_n 2, 1) := by decide +kernel
theorem dX11_path_43 : decode cX11_path 43 = .ok (.invokevirtual 320, 3) := by decide +kernel
theorem dX11_path_46 : decode cX11_path 46 = .ok (.ireturn, 1) := by decide +kernel
theorem dX11_mean_0 : decode cX11_mean 0 = .ok (.aload_n 0, 1) := by decide +kernel
theorem dX11_mean_1 : decode cX11_mean 1 = .ok (.iload_n 1, 1) := by decide +kernel
theorem dX11_mean_2 : decode cX11_mean 2 = .ok (.invokevirtual 179, 3) := by decide +kernel
theorem dX11_mean_5 : decode cX11_mean 5 = .ok (.ifCond .eq 27, 3) := by decide +kernel
theorem dX11_mean_8 : decode cX11_mean 8 = .ok (.iload_n 2, 1) := by decide +kernel
theorem dX11_mean_9 : decode cX11_mean 9 = .ok (.ifCond .lt 23, 3) := by decide +kernel
theorem dX11_mean_12 : decode cX11_mean 12 = .ok (.iload_n 2, 1) := by decide +kernel
theorem dX11_mean_13 : decode cX11_mean 13 = .ok (.iconst 1, 1) := by decide +kernel
theorem dX11_mean_14 : decode cX11_mean 14 = .ok (.if_icmp .gt 18, 3) := by decide +kernel
theorem dX11_mean_17 : decode cX11_mean 17 = .ok (.aload_n 0, 1) := by decide +kernel
theorem dX11_mean_18 : decode cX11_mean 18 = .ok (.getfield 44, 3) := by decide +kernel
theorem dX11_mean_21 : decode cX11_mean 21 = .ok (.getfield 182, 3) := by decide +kernel
theorem dX11_mean_24 : decode cX11_mean 24 = .ok (.iload_n 1, 1) := by decide +kernel
theorem dX11_mean_25 : decode cX11_mean 25 = .ok (.aaload, 1) := by decide +kernel
theorem dX11_mean_26 : decode cX11_mean 26 = .ok (.getfield 186, 3) := by decide +kernel
theorem dX11_mean_29 : decode cX11_mean 29 = .ok (.ifCond .ne 14, 3) := by decide +kernel
theorem dX11_mean_32 : decode cX11_mean 32 = .ok (.new 169, 3) := by decide +kernel
theorem dX11_mean_35 : decode cX11_mean 35 = .ok (.dup, 1) := by decide +kernel
theorem dX11_mean_36 : decode cX11_mean 36 = .ok (.ldc_w 323, 3) := by decide +kernel
theorem dX11_mean_39 : decode cX11_mean 39 = .ok (.invokespecial 173, 3) := by decide +kernel
theorem dX11_mean_42 : decode cX11_mean 42 = .ok (.athrow, 1) := by decide +kernel
theorem dX11_mean_43 : decode cX11_mean 43 = .ok (.aload_n 0, 1) := by decide +kernel
theorem dX11_mean_44 : decode cX11_mean 44 = .ok (.getfield 44, 3) := by decide +kernel
theorem dX11_mean_47 : decode cX11_mean 47 = .ok (.getfield 182, 3) := by decide +kernel
theorem dX11_mean_50 : decode cX11_mean 50 = .ok (.iload_n 1, 1) := by decide +kernel
theorem dX11_mean_51 : decode cX11_mean 51 = .ok (.aaload, 1) := by decide +kernel
theorem dX11_mean_52 : decode cX11_mean 52 = .ok (.getfield 186, 3) := by decide +kernel
theorem dX11_mean_55 : decode cX11_mean 55 = .ok (.aload_n 0, 1) := by decide +kernel
theorem dX11_mean_56 : decode cX11_mean 56 = .ok (.getfield 44, 3) := by decide +kernel
theorem dX11_mean_59 : decode cX11_mean 59 = .ok (.getfield 182, 3) := by decide +kernel
theorem dX11_mean_62 : decode cX11_mean 62 = .ok (.iload_n 1, 1) := by decide +kernel
theorem dX11_mean_63 : decode cX11_mean 63 = .ok (.aaload, 1) := by decide +kernel
theorem dX11_mean_64 : decode cX11_mean 64 = .ok (.getfield 194, 3) := by decide +kernel
theorem dX11_mean_67 : decode cX11_mean 67 = .ok (.iload_n 2, 1) := by decide +kernel
theorem dX11_mean_68 : decode cX11_mean 68 = .ok (.invokestatic 325, 3) := by decide +kernel
theorem dX11_mean_71 : decode cX11_mean 71 = .ok (.ireturn, 1) := by decide +kernel
theorem dX11_part_0 : decode cX11_part 0 = .ok (.aload_n 0, 1) := by decide +kernel
theorem dX11_part_1 : decode cX11_part 1 = .ok (.iload_n 1, 1) := by decide +kernel
theorem dX11_part_2 : decode cX11_part 2 = .ok (.iload_n 2, 1) := by decide +kernel
theorem dX11_part_3 : decode cX11_part 3 = .ok (.invokevirtual 266, 3) := by decide +kernel
theorem dX11_part_6 : decode cX11_part 6 = .ok (.ifCond .eq 27, 3) := by decide +kernel
theorem dX11_part_9 : decode cX11_part 9 = .ok (.iload_n 3, 1) := by decide +kernel
theorem dX11_part_10 : decode cX11_part 10 = .ok (.ifCond .lt 23, 3) := by decide +kernel
theorem dX11_part_13 : decode cX11_part 13 = .ok (.iload_n 3, 1) := by decide +kernel
theorem dX11_part_14 : decode cX11_part 14 = .ok (.iconst 1, 1) := by decide +kernel
theorem dX11_part_15 : decode cX11_part 15 = .ok (.if_icmp .gt 18, 3) := by decide +kernel
theorem dX11_part_18 : decode cX11_part 18 = .ok (.aload_n 0, 1) := by decide +kernel
theorem dX11_part_19 : decode cX11_part 19 = .ok (.getfield 44, 3) := by decide +kernel
theorem dX11_part_22 : decode cX11_part 22 = .ok (.getfield 182, 3) := by decide +kernel
theorem dX11_part_25 : decode cX11_part 25 = .ok (.iload_n 1, 1) := by decide +kernel
theorem dX11_part_26 : decode cX11_part 26 = .ok (.aaload, 1) := by decide +kernel
theorem dX11_part_27 : decode cX11_part 27 = .ok (.getfield 194, 3) := by decide +kernel
theorem dX11_part_30 : decode cX11_part 30 = .ok (.ifCond .ne 14, 3) := by decide +kernel
theorem dX11_part_33 : decode cX11_part 33 = .ok (.new 169, 3) := by decide +kernel
theorem dX11_part_36 : decode cX11_part 36 = .ok (.dup, 1) := by decide +kernel
theorem dX11_part_37 : decode cX11_part 37 = .ok (.ldc_w 328, 3) := by decide +kernel
theorem dX11_part_40 : decode cX11_part 40 = .ok (.invokespecial 173, 3) := by decide +kernel
theorem dX11_part_43 : decode cX11_part 43 = .ok (.athrow, 1) := by decide +kernel
theorem dX11_part_44 : decode cX11_part 44 = .ok (.aload_n 0, 1) := by decide +kernel
theorem dX11_part_45 : decode cX11_part 45 = .ok (.getfield 44, 3) := by decide +kernel
theorem dX11_part_48 : decode cX11_part 48 = .ok (.iload_n 1, 1) := by decide +kernel
theorem dX11_part_49 : decode cX11_part 49 = .ok (.iload_n 2, 1) := by decide +kernel
theorem dX11_part_50 : decode cX11_part 50 = .ok (.invokevirtual 287, 3) := by decide +kernel
theorem dX11_part_53 : decode cX11_part 53 = .ok (.invokestatic 290, 3) := by decide +kernel
theorem dX11_part_56 : decode cX11_part 56 = .ok (.aload_n 0, 1) := by decide +kernel
theorem dX11_part_57 : decode cX11_part 57 = .ok (.getfield 44, 3) := by decide +kernel
theorem dX11_part_60 : decode cX11_part 60 = .ok (.getfield 182, 3) := by decide +kernel
theorem dX11_part_63 : decode cX11_part 63 = .ok (.iload_n 1, 1) := by decide +kernel
theorem dX11_part_64 : decode cX11_part 64 = .ok (.aaload, 1) := by decide +kernel
theorem dX11_part_65 : decode cX11_part 65 = .ok (.getfield 194, 3) := by decide +kernel
theorem dX11_part_68 : decode cX11_part 68 = .ok (.iload_n 3, 1) := by decide +kernel
theorem dX11_part_69 : decode cX11_part 69 = .ok (.invokestatic 325, 3) := by decide +kernel
theorem dX11_part_72 : decode cX11_part 72 = .ok (.ireturn, 1) := by decide +kernel
theorem dX11_termOf_0 : decode cX11_termOf 0 = .ok (.iload_n 0, 1) := by decide +kernel
theorem dX11_termOf_1 : decode cX11_termOf 1 = .ok (.istore_n 3, 1) := by decide +kernel
theorem dX11_termOf_2 : decode cX11_termOf 2 = .ok (.iload_n 1, 1) := by decide +kernel
theorem dX11_termOf_3 : decode cX11_termOf 3 = .ok (.istore 4, 2) := by decide +kernel
theorem dX11_termOf_5 : decode cX11_termOf 5 = .ok (.iconst 0, 1) := by decide +kernel
theorem dX11_termOf_6 : decode cX11_termOf 6 = .ok (.istore 5, 2) := by decide +kernel
theorem dX11_termOf_8 : decode cX11_termOf 8 = .ok (.iload 5, 2) := by decide +kernel
theorem dX11_termOf_10 : decode cX11_termOf 10 = .ok (.bipush 24, 2) := by decide +kernel
theorem dX11_termOf_12 : decode cX11_termOf 12 = .ok (.if_icmp .ge 27, 3) := by decide +kernel
theorem dX11_termOf_15 : decode cX11_termOf 15 = .ok (.iload 4, 2) := by decide +kernel
theorem dX11_termOf_17 : decode cX11_termOf 17 = .ok (.ifCond .le 22, 3) := by decide +kernel
theorem dX11_termOf_20 : decode cX11_termOf 20 = .ok (.iload_n 3, 1) := by decide +kernel
theorem dX11_termOf_21 : decode cX11_termOf 21 = .ok (.iload 4, 2) := by decide +kernel
theorem dX11_termOf_23 : decode cX11_termOf 23 = .ok (.irem, 1) := by decide +kernel
theorem dX11_termOf_24 : decode cX11_termOf 24 = .ok (.istore 6, 2) := by decide +kernel
theorem dX11_termOf_26 : decode cX11_termOf 26 = .ok (.iload 4, 2) := by decide +kernel
theorem dX11_termOf_28 : decode cX11_termOf 28 = .ok (.istore_n 3, 1) := by decide +kernel
theorem dX11_termOf_29 : decode cX11_termOf 29 = .ok (.iload 6, 2) := by decide +kernel
theorem dX11_termOf_31 : decode cX11_termOf 31 = .ok (.istore 4, 2) := by decide +kernel
theorem dX11_termOf_33 : decode cX11_termOf 33 = .ok (.iinc 5 1, 3) := by decide +kernel
theorem dX11_termOf_36 : decode cX11_termOf 36 = .ok (.goto (-28), 3) := by decide +kernel
theorem dX11_termOf_39 : decode cX11_termOf 39 = .ok (.iload_n 2, 1) := by decide +kernel
theorem dX11_termOf_40 : decode cX11_termOf 40 = .ok (.ifCond .ne 7, 3) := by decide +kernel
theorem dX11_termOf_43 : decode cX11_termOf 43 = .ok (.iload_n 0, 1) := by decide +kernel
theorem dX11_termOf_44 : decode cX11_termOf 44 = .ok (.goto 4, 3) := by decide +kernel
theorem dX11_termOf_47 : decode cX11_termOf 47 = .ok (.iload_n 1, 1) := by decide +kernel
theorem dX11_termOf_48 : decode cX11_termOf 48 = .ok (.istore 5, 2) := by decide +kernel
theorem dX11_termOf_50 : decode cX11_termOf 50 = .ok (.iload_n 3, 1) := by decide +kernel
theorem dX11_termOf_51 : decode cX11_termOf 51 = .ok (.ifCond .ne 8, 3) := by decide +kernel
theorem dX11_termOf_54 : decode cX11_termOf 54 = .ok (.iload 5, 2) := by decide +kernel
theorem dX11_termOf_56 : decode cX11_termOf 56 = .ok (.goto 7, 3) := by decide +kernel
theorem dX11_termOf_59 : decode cX11_termOf 59 = .ok (.iload 5, 2) := by decide +kernel
theorem dX11_termOf_61 : decode cX11_termOf 61 = .ok (.iload_n 3, 1) := by decide +kernel
theorem dX11_termOf_62 : decode cX11_termOf 62 = .ok (.idiv, 1) := by decide +kernel
theorem dX11_termOf_63 : decode cX11_termOf 63 = .ok (.ireturn, 1) := by decide +kernel
theorem dX11_tag_0 : decode cX11_tag 0 = .ok (.aload_n 0, 1) := by decide +kernel
theorem dX11_tag_1 : decode cX11_tag 1 = .ok (.iload_n 1, 1) := by decide +kernel
theorem dX11_tag_2 : decode cX11_tag 2 = .ok (.invokevirtual 179, 3) := by decide +kernel
theorem dX11_tag_5 : decode cX11_tag 5 = .ok (.ifCond .ne 5, 3) := by decide +kernel
theorem dX11_tag_8 : decode cX11_tag 8 = .ok (.iconst (-1), 1) := by decide +kernel
theorem dX11_tag_9 : decode cX11_tag 9 = .ok (.ireturn, 1) := by decide +kernel
theorem dX11_tag_10 : decode cX11_tag 10 = .ok (.aload_n 0, 1) := by decide +kernel
theorem dX11_tag_11 : decode cX11_tag 11 = .ok (.iconst 0, 1) := by decide +kernel
theorem dX11_tag_12 : decode cX11_tag 12 = .ok (.putfield 105, 3) := by decide +kernel
theorem dX11_tag_15 : decode cX11_tag 15 = .ok (.aload_n 0, 1) := by decide +kernel
theorem dX11_tag_16 : decode cX11_tag 16 = .ok (.aload_n 0, 1) := by decide +kernel
theorem dX11_tag_17 : decode cX11_tag 17 = .ok (.getfield 20, 3) := by decide +kernel
theorem dX11_tag_20 : decode cX11_tag 20 = .ok (.getfield 33, 3) := by decide +kernel
theorem dX11_tag_23 : decode cX11_tag 23 = .ok (.getfield 330, 3) := by decide +kernel
theorem dX11_tag_26 : decode cX11_tag 26 = .ok (.iload_n 1, 1) := by decide +kernel
theorem dX11_tag_27 : decode cX11_tag 27 = .ok (.laload, 1) := by decide +kernel
theorem dX11_tag_28 : decode cX11_tag 28 = .ok (.invokevirtual 334, 3) := by decide +kernel
theorem dX11_tag_31 : decode cX11_tag 31 = .ok (.aload_n 0, 1) := by decide +kernel
theorem dX11_tag_32 : decode cX11_tag 32 = .ok (.ldc_w 338, 3) := by decide +kernel
theorem dX11_tag_35 : decode cX11_tag 35 = .ok (.invokevirtual 340, 3) := by decide +kernel
theorem dX11_tag_38 : decode cX11_tag 38 = .ok (.aload_n 0, 1) := by decide +kernel
theorem dX11_tag_39 : decode cX11_tag 39 = .ok (.aload_n 0, 1) := by decide +kernel
theorem dX11_tag_40 : decode cX11_tag 40 = .ok (.getfield 44, 3) := by decide +kernel
theorem dX11_tag_43 : decode cX11_tag 43 = .ok (.getfield 182, 3) := by decide +kernel
theorem dX11_tag_46 : decode cX11_tag 46 = .ok (.iload_n 1, 1) := by decide +kernel
theorem dX11_tag_47 : decode cX11_tag 47 = .ok (.aaload, 1) := by decide +kernel
theorem dX11_tag_48 : decode cX11_tag 48 = .ok (.getfield 186, 3) := by decide +kernel
theorem dX11_tag_51 : decode cX11_tag 51 = .ok (.invokevirtual 343, 3) := by decide +kernel
theorem dX11_tag_54 : decode cX11_tag 54 = .ok (.aload_n 0, 1) := by decide +kernel
theorem dX11_tag_55 : decode cX11_tag 55 = .ok (.ldc_w 346, 3) := by decide +kernel
theorem dX11_tag_58 : decode cX11_tag 58 = .ok (.invokevirtual 340, 3) := by decide +kernel
theorem dX11_tag_61 : decode cX11_tag 61 = .ok (.aload_n 0, 1) := by decide +kernel
theorem dX11_tag_62 : decode cX11_tag 62 = .ok (.aload_n 0, 1) := by decide +kernel
theorem dX11_tag_63 : decode cX11_tag 63 = .ok (.getfield 44, 3) := by decide +kernel
theorem dX11_tag_66 : decode cX11_tag 66 = .ok (.getfield 182, 3) := by decide +kernel
theorem dX11_tag_69 : decode cX11_tag 69 = .ok (.iload_n 1, 1) := by decide +kernel
theorem dX11_tag_70 : decode cX11_tag 70 = .ok (.aaload, 1) := by decide +kernel
theorem dX11_tag_71 : decode cX11_tag 71 = .ok (.getfield 194, 3) := by decide +kernel
theorem dX11_tag_74 : decode cX11_tag 74 = .ok (.invokevirtual 343, 3) := by decide +kernel
theorem dX11_tag_77 : decode cX11_tag 77 = .ok (.aload_n 0, 1) := by decide +kernel
theorem dX11_tag_78 : decode cX11_tag 78 = .ok (.getfield 20, 3) := by decide +kernel
theorem dX11_tag_81 : decode cX11_tag 81 = .ok (.getfield 37, 3) := by decide +kernel
theorem dX11_tag_84 : decode cX11_tag 84 = .ok (.iload_n 1, 1) := by decide +kernel
theorem dX11_tag_85 : decode cX11_tag 85 = .ok (.invokevirtual 348, 3) := by decide +kernel
theorem dX11_tag_88 : decode cX11_tag 88 = .ok (.istore_n 2, 1) := by decide +kernel
theorem dX11_tag_89 : decode cX11_tag 89 = .ok (.iload_n 2, 1) := by decide +kernel
theorem dX11_tag_90 : decode cX11_tag 90 = .ok (.iconst (-1), 1) := by decide +kernel
theorem dX11_tag_91 : decode cX11_tag 91 = .ok (.if_icmp .eq 26, 3) := by decide +kernel
theorem dX11_tag_94 : decode cX11_tag 94 = .ok (.aload_n 0, 1) := by decide +kernel
theorem dX11_tag_95 : decode cX11_tag 95 = .ok (.ldc_w 351, 3) := by decide +kernel
theorem dX11_tag_98 : decode cX11_tag 98 = .ok (.invokevirtual 340, 3) := by decide +kernel
theorem dX11_tag_101 : decode cX11_tag 101 = .ok (.aload_n 0, 1) := by decide +kernel
theorem dX11_tag_102 : decode cX11_tag 102 = .ok (.aload_n 0, 1) := by decide +kernel
theorem dX11_tag_103 : decode cX11_tag 103 = .ok (.getfield 20, 3) := by decide +kernel
theorem dX11_tag_106 : decode cX11_tag 106 = .ok (.getfield 33, 3) := by decide +kernel
theorem dX11_tag_109 : decode cX11_tag 109 = .ok (.getfield 330, 3) := by decide +kernel
theorem dX11_tag_112 : decode cX11_tag 112 = .ok (.iload_n 2, 1) := by decide +kernel
theorem dX11_tag_113 : decode cX11_tag 113 = .ok (.laload, 1) := by decide +kernel
theorem dX11_tag_114 : decode cX11_tag 114 = .ok (.invokevirtual 334, 3) := by decide +kernel
theorem dX11_tag_117 : decode cX11_tag 117 = .ok (.aload_n 0, 1) := by decide +kernel
theorem dX11_tag_118 : decode cX11_tag 118 = .ok (.getfield 105, 3) := by decide +kernel
theorem dX11_tag_121 : decode cX11_tag 121 = .ok (.ireturn, 1) := by decide +kernel
theorem dX11_byteAt_0 : decode cX11_byteAt 0 = .ok (.iload_n 1, 1) := by decide +kernel
theorem dX11_byteAt_1 : decode cX11_byteAt 1 = .ok (.ifCond .lt 24, 3) := by decide +kernel
theorem dX11_byteAt_4 : decode cX11_byteAt 4 = .ok (.iload_n 1, 1) := by decide +kernel
theorem dX11_byteAt_5 : decode cX11_byteAt 5 = .ok (.aload_n 0, 1) := by decide +kernel
theorem dX11_byteAt_6 : decode cX11_byteAt 6 = .ok (.getfield 105, 3) := by decide +kernel
theorem dX11_byteAt_9 : decode cX11_byteAt 9 = .ok (.if_icmp .ge 16, 3) := by decide +kernel
theorem dX11_byteAt_12 : decode cX11_byteAt 12 = .ok (.aload_n 0, 1) := by decide +kernel
theorem dX11_byteAt_13 : decode cX11_byteAt 13 = .ok (.getfield 102, 3) := by decide +kernel
theorem dX11_byteAt_16 : decode cX11_byteAt 16 = .ok (.iload_n 1, 1) := by decide +kernel
theorem dX11_byteAt_17 : decode cX11_byteAt 17 = .ok (.baload, 1) := by decide +kernel
theorem dX11_byteAt_18 : decode cX11_byteAt 18 = .ok (.sipush 255, 3) := by decide +kernel
theorem dX11_byteAt_21 : decode cX11_byteAt 21 = .ok (.iand, 1) := by decide +kernel
theorem dX11_byteAt_22 : decode cX11_byteAt 22 = .ok (.goto 4, 3) := by decide +kernel
theorem dX11_byteAt_25 : decode cX11_byteAt 25 = .ok (.iconst (-1), 1) := by decide +kernel
theorem dX11_byteAt_26 : decode cX11_byteAt 26 = .ok (.ireturn, 1) := by decide +kernel
theorem dX11_addByte_0 : decode cX11_addByte 0 = .ok (.aload_n 0, 1) := by decide +kernel
theorem dX11_addByte_1 : decode cX11_addByte 1 = .ok (.getfield 105, 3) := by decide +kernel
theorem dX11_addByte_4 : decode cX11_addByte 4 = .ok (.bipush 48, 2) := by decide +kernel
theorem dX11_addByte_6 : decode cX11_addByte 6 = .ok (.if_icmp .ge 24, 3) := by decide +kernel
theorem dX11_addByte_9 : decode cX11_addByte 9 = .ok (.aload_n 0, 1) := by decide +kernel
theorem dX11_addByte_10 : decode cX11_addByte 10 = .ok (.getfield 102, 3) := by decide +kernel
theorem dX11_addByte_13 : decode cX11_addByte 13 = .ok (.aload_n 0, 1) := by decide +kernel
theorem dX11_addByte_14 : decode cX11_addByte 14 = .ok (.getfield 105, 3) := by decide +kernel
theorem dX11_addByte_17 : decode cX11_addByte 17 = .ok (.iload_n 1, 1) := by decide +kernel
theorem dX11_addByte_18 : decode cX11_addByte 18 = .ok (.i2b, 1) := by decide +kernel
theorem dX11_addByte_19 : decode cX11_addByte 19 = .ok (.bastore, 1) := by decide +kernel
theorem dX11_addByte_20 : decode cX11_addByte 20 = .ok (.aload_n 0, 1) := by decide +kernel
theorem dX11_addByte_21 : decode cX11_addByte 21 = .ok (.dup, 1) := by decide +kernel
theorem dX11_addByte_22 : decode cX11_addByte 22 = .ok (.getfield 105, 3) := by decide +kernel
theorem dX11_addByte_25 : decode cX11_addByte 25 = .ok (.iconst 1, 1) := by decide +kernel
theorem dX11_addByte_26 : decode cX11_addByte 26 = .ok (.iadd, 1) := by decide +kernel
theorem dX11_addByte_27 : decode cX11_addByte 27 = .ok (.putfield 105, 3) := by decide +kernel
theorem dX11_addByte_30 : decode cX11_addByte 30 = .ok (.return_, 1) := by decide +kernel
theorem dX11_addName_0 : decode cX11_addName 0 = .ok (.iconst 0, 1) := by decide +kernel
theorem dX11_addName_1 : decode cX11_addName 1 = .ok (.istore_n 3, 1) := by decide +kernel
theorem dX11_addName_2 : decode cX11_addName 2 = .ok (.iload_n 3, 1) := by decide +kernel
theorem dX11_addName_3 : decode cX11_addName 3 = .ok (.bipush 7, 2) := by decide +kernel
theorem dX11_addName_5 : decode cX11_addName 5 = .ok (.if_icmp .ge 27, 3) := by decide +kernel
theorem dX11_addName_8 : decode cX11_addName 8 = .ok (.lload_n 1, 1) := by decide +kernel
theorem dX11_addName_9 : decode cX11_addName 9 = .ok (.iload_n 3, 1) := by decide +kernel
theorem dX11_addName_10 : decode cX11_addName 10 = .ok (.invokestatic 353, 3) := by decide +kernel
theorem dX11_addName_13 : decode cX11_addName 13 = .ok (.istore 4, 2) := by decide +kernel
theorem dX11_addName_15 : decode cX11_addName 15 = .ok (.iload 4, 2) := by decide +kernel
theorem dX11_addName_17 : decode cX11_addName 17 = .ok (.ifCond .eq 9, 3) := by decide +kernel
theorem dX11_addName_20 : decode cX11_addName 20 = .ok (.aload_n 0, 1) := by decide +kernel
theorem dX11_addName_21 : decode cX11_addName 21 = .ok (.iload 4, 2) := by decide +kernel
theorem dX11_addName_23 : decode cX11_addName 23 = .ok (.invokevirtual 357, 3) := by decide +kernel
theorem dX11_addName_26 : decode cX11_addName 26 = .ok (.iinc 3 1, 3) := by decide +kernel
theorem dX11_addName_29 : decode cX11_addName 29 = .ok (.goto (-27), 3) := by decide +kernel
theorem dX11_addName_32 : decode cX11_addName 32 = .ok (.return_, 1) := by decide +kernel
theorem dX11_addText_0 : decode cX11_addText 0 = .ok (.iconst 0, 1) := by decide +kernel
theorem dX11_addText_1 : decode cX11_addText 1 = .ok (.istore_n 2, 1) := by decide +kernel
theorem dX11_addText_2 : decode cX11_addText 2 = .ok (.iload_n 2, 1) := by decide +kernel
theorem dX11_addText_3 : decode cX11_addText 3 = .ok (.aload_n 1, 1) := by decide +kernel
theorem dX11_addText_4 : decode cX11_addText 4 = .ok (.invokevirtual 360, 3) := by decide +kernel
theorem dX11_addText_7 : decode cX11_addText 7 = .ok (.if_icmp .ge 18, 3) := by decide +kernel
theorem dX11_addText_10 : decode cX11_addText 10 = .ok (.aload_n 0, 1) := by decide +kernel
theorem dX11_addText_11 : decode cX11_addText 11 = .ok (.aload_n 1, 1) := by decide +kernel
theorem dX11_addText_12 : decode cX11_addText 12 = .ok (.iload_n 2, 1) := by decide +kernel
theorem dX11_addText_13 : decode cX11_addText 13 = .ok (.invokevirtual 365, 3) := by decide +kernel
theorem dX11_addText_16 : decode cX11_addText 16 = .ok (.invokevirtual 357, 3) := by decide +kernel
theorem dX11_addText_19 : decode cX11_addText 19 = .ok (.iinc 2 1, 3) := by decide +kernel
theorem dX11_addText_22 : decode cX11_addText 22 = .ok (.goto (-20), 3) := by decide +kernel
theorem dX11_addText_25 : decode cX11_addText 25 = .ok (.return_, 1) := by decide +kernel
theorem dX11_addNumber_0 : decode cX11_addNumber 0 = .ok (.iload_n 1, 1) := by decide +kernel
theorem dX11_addNumber_1 : decode cX11_addNumber 1 = .ok (.bipush 10, 2) := by decide +kernel
theorem dX11_addNumber_3 : decode cX11_addNumber 3 = .ok (.if_icmp .lt 17, 3) := by decide +kernel
theorem dX11_addNumber_6 : decode cX11_addNumber 6 = .ok (.aload_n 0, 1) := by decide +kernel
theorem dX11_addNumber_7 : decode cX11_addNumber 7 = .ok (.bipush 48, 2) := by decide +kernel
theorem dX11_addNumber_9 : decode cX11_addNumber 9 = .ok (.iload_n 1, 1) := by decide +kernel
theorem dX11_addNumber_10 : decode cX11_addNumber 10 = .ok (.bipush 10, 2) := by decide +kernel
theorem dX11_addNumber_12 : decode cX11_addNumber 12 = .ok (.idiv, 1) := by decide +kernel
theorem dX11_addNumber_13 : decode cX11_addNumber 13 = .ok (.bipush 10, 2) := by decide +kernel
theorem dX11_addNumber_15 : decode cX11_addNumber 15 = .ok (.irem, 1) := by decide +kernel
theorem dX11_addNumber_16 : decode cX11_addNumber 16 = .ok (.iadd, 1) := by decide +kernel
theorem dX11_addNumber_17 : decode cX11_addNumber 17 = .ok (.invokevirtual 357, 3) := by decide +kernel
theorem dX11_addNumber_20 : decode cX11_addNumber 20 = .ok (.aload_n 0, 1) := by decide +kernel
theorem dX11_addNumber_21 : decode cX11_addNumber 21 = .ok (.bipush 48, 2) := by decide +kernel
theorem dX11_addNumber_23 : decode cX11_addNumber 23 = .ok (.iload_n 1, 1) := by decide +kernel
theorem dX11_addNumber_24 : decode cX11_addNumber 24 = .ok (.bipush 10, 2) := by decide +kernel
theorem dX11_addNumber_26 : decode cX11_addNumber 26 = .ok (.irem, 1) := by decide +kernel
theorem dX11_addNumber_27 : decode cX11_addNumber 27 = .ok (.iadd, 1) := by decide +kernel
theorem dX11_addNumber_28 : decode cX11_addNumber 28 = .ok (.invokevirtual 357, 3) := by decide +kernel
theorem dX11_addNumber_31 : decode cX11_addNumber 31 = .ok (.return_, 1) := by decide +kernel
theorem dX11_drawn_0 : decode cX11_drawn 0 = .ok (.iload_n 1, 1) := by decide +kernel
theorem dX11_drawn_1 : decode cX11_drawn 1 = .ok (.iconst 1, 1) := by decide +kernel
theorem dX11_drawn_2 : decode cX11_drawn 2 = .ok (.if_icmp .lt 9, 3) := by decide +kernel
theorem dX11_drawn_5 : decode cX11_drawn 5 = .ok (.iload_n 1, 1) := by decide +kernel
theorem dX11_drawn_6 : decode cX11_drawn 6 = .ok (.bipush 60, 2) := by decide +kernel
theorem dX11_drawn_8 : decode cX11_drawn 8 = .ok (.if_icmp .le 5, 3) := by decide +kernel
theorem dX11_drawn_11 : decode cX11_drawn 11 = .ok (.iconst (-1), 1) := by decide +kernel
theorem dX11_drawn_12 : decode cX11_drawn 12 = .ok (.ireturn, 1) := by decide +kernel
theorem dX11_drawn_13 : decode cX11_drawn 13 = .ok (.aload_n 0, 1) := by decide +kernel
theorem dX11_drawn_14 : decode cX11_drawn 14 = .ok (.getfield 20, 3) := by decide +kernel
theorem dX11_drawn_17 : decode cX11_drawn 17 = .ok (.getfield 33, 3) := by decide +kernel
theorem dX11_drawn_20 : decode cX11_drawn 20 = .ok (.invokevirtual 369, 3) := by decide +kernel
theorem dX11_drawn_23 : decode cX11_drawn 23 = .ok (.ifCond .ne 5, 3) := by decide +kernel
theorem dX11_drawn_26 : decode cX11_drawn 26 = .ok (.iconst 0, 1) := by decide +kernel
theorem dX11_drawn_27 : decode cX11_drawn 27 = .ok (.ireturn, 1) := by decide +kernel
theorem dX11_drawn_28 : decode cX11_drawn 28 = .ok (.aload_n 0, 1) := by decide +kernel
theorem dX11_drawn_29 : decode cX11_drawn 29 = .ok (.getfield 57, 3) := by decide +kernel
theorem dX11_drawn_32 : decode cX11_drawn 32 = .ok (.aload_n 0, 1) := by decide +kernel
theorem dX11_drawn_33 : decode cX11_drawn 33 = .ok (.getfield 20, 3) := by decide +kernel
theorem dX11_drawn_36 : decode cX11_drawn 36 = .ok (.getfield 37, 3) := by decide +kernel
theorem dX11_drawn_39 : decode cX11_drawn 39 = .ok (.invokevirtual 252, 3) := by decide +kernel
theorem dX11_drawn_42 : decode cX11_drawn 42 = .ok (.aload_n 0, 1) := by decide +kernel
theorem dX11_drawn_43 : decode cX11_drawn 43 = .ok (.getfield 64, 3) := by decide +kernel
theorem dX11_drawn_46 : decode cX11_drawn 46 = .ok (.iload_n 2, 1) := by decide +kernel
theorem dX11_drawn_47 : decode cX11_drawn 47 = .ok (.invokevirtual 372, 3) := by decide +kernel
theorem dX11_drawn_50 : decode cX11_drawn 50 = .ok (.aload_n 0, 1) := by decide +kernel
theorem dX11_drawn_51 : decode cX11_drawn 51 = .ok (.getfield 64, 3) := by decide +kernel
theorem dX11_drawn_54 : decode cX11_drawn 54 = .ok (.aload_n 0, 1) := by decide +kernel
theorem dX11_drawn_55 : decode cX11_drawn 55 = .ok (.getfield 44, 3) := by decide +kernel
theorem dX11_drawn_58 : decode cX11_drawn 58 = .ok (.iload_n 1, 1) := by decide +kernel
theorem dX11_drawn_59 : decode cX11_drawn 59 = .ok (.invokevirtual 375, 3) := by decide +kernel
theorem dX11_drawn_62 : decode cX11_drawn 62 = .ok (.aload_n 0, 1) := by decide +kernel
theorem dX11_drawn_63 : decode cX11_drawn 63 = .ok (.getfield 64, 3) := by decide +kernel
theorem dX11_drawn_66 : decode cX11_drawn 66 = .ok (.invokevirtual 379, 3) := by decide +kernel
theorem dX11_drawn_69 : decode cX11_drawn 69 = .ok (.aload_n 0, 1) := by decide +kernel
theorem dX11_drawn_70 : decode cX11_drawn 70 = .ok (.getfield 57, 3) := by decide +kernel
theorem dX11_drawn_73 : decode cX11_drawn 73 = .ok (.invokevirtual 278, 3) := by decide +kernel
theorem dX11_drawn_76 : decode cX11_drawn 76 = .ok (.iload_n 1, 1) := by decide +kernel
theorem dX11_drawn_77 : decode cX11_drawn 77 = .ok (.ireturn, 1) := by decide +kernel
theorem dX11_refused_0 : decode cX11_refused 0 = .ok (.aload_n 0, 1) := by decide +kernel
theorem dX11_refused_1 : decode cX11_refused 1 = .ok (.getfield 64, 3) := by decide +kernel
theorem dX11_refused_4 : decode cX11_refused 4 = .ok (.iload_n 1, 1) := by decide +kernel
theorem dX11_refused_5 : decode cX11_refused 5 = .ok (.invokevirtual 382, 3) := by decide +kernel
theorem dX11_refused_8 : decode cX11_refused 8 = .ok (.ireturn, 1) := by decide +kernel
theorem dX11_odds_0 : decode cX11_odds 0 = .ok (.iload_n 1, 1) := by decide +kernel
theorem dX11_odds_1 : decode cX11_odds 1 = .ok (.iconst 1, 1) := by decide +kernel
theorem dX11_odds_2 : decode cX11_odds 2 = .ok (.if_icmp .lt 9, 3) := by decide +kernel
theorem dX11_odds_5 : decode cX11_odds 5 = .ok (.iload_n 1, 1) := by decide +kernel
theorem dX11_odds_6 : decode cX11_odds 6 = .ok (.bipush 20, 2) := by decide +kernel
theorem dX11_odds_8 : decode cX11_odds 8 = .ok (.if_icmp .le 5, 3) := by decide +kernel
theorem dX11_odds_11 : decode cX11_odds 11 = .ok (.iconst (-1), 1) := by decide +kernel
theorem dX11_odds_12 : decode cX11_odds 12 = .ok (.ireturn, 1) := by decide +kernel
theorem dX11_odds_13 : decode cX11_odds 13 = .ok (.aload_n 0, 1) := by decide +kernel
theorem dX11_odds_14 : decode cX11_odds 14 = .ok (.getfield 20, 3) := by decide +kernel
theorem dX11_odds_17 : decode cX11_odds 17 = .ok (.getfield 33, 3) := by decide +kernel
theorem dX11_odds_20 : decode cX11_odds 20 = .ok (.invokevirtual 369, 3) := by decide +kernel
theorem dX11_odds_23 : decode cX11_odds 23 = .ok (.ifCond .ne 5, 3) := by decide +kernel
theorem dX11_odds_26 : decode cX11_odds 26 = .ok (.iload_n 1, 1) := by decide +kernel
theorem dX11_odds_27 : decode cX11_odds 27 = .ok (.ireturn, 1) := by decide +kernel
theorem dX11_odds_28 : decode cX11_odds 28 = .ok (.iconst 0, 1) := by decide +kernel
theorem dX11_odds_29 : decode cX11_odds 29 = .ok (.istore_n 3, 1) := by decide +kernel
theorem dX11_odds_30 : decode cX11_odds 30 = .ok (.iconst 0, 1) := by decide +kernel
theorem dX11_odds_31 : decode cX11_odds 31 = .ok (.istore 4, 2) := by decide +kernel
theorem dX11_odds_33 : decode cX11_odds 33 = .ok (.iload 4, 2) := by decide +kernel
theorem dX11_odds_35 : decode cX11_odds 35 = .ok (.iload_n 1, 1) := by decide +kernel
theorem dX11_odds_36 : decode cX11_odds 36 = .ok (.if_icmp .ge 58, 3) := by decide +kernel
theorem dX11_odds_39 : decode cX11_odds 39 = .ok (.aload_n 0, 1) := by decide +kernel
theorem dX11_odds_40 : decode cX11_odds 40 = .ok (.getfield 51, 3) := by decide +kernel
theorem dX11_odds_43 : decode cX11_odds 43 = .ok (.aload_n 0, 1) := by decide +kernel
theorem dX11_odds_44 : decode cX11_odds 44 = .ok (.getfield 44, 3) := by decide +kernel
theorem dX11_odds_47 : decode cX11_odds 47 = .ok (.invokevirtual 310, 3) := by decide +kernel
theorem dX11_odds_50 : decode cX11_odds 50 = .ok (.aload_n 0, 1) := by decide +kernel
theorem dX11_odds_51 : decode cX11_odds 51 = .ok (.getfield 64, 3) := by decide +kernel
theorem dX11_odds_54 : decode cX11_odds 54 = .ok (.iload_n 2, 1) := by decide +kernel
theorem dX11_odds_55 : decode cX11_odds 55 = .ok (.iload 4, 2) := by decide +kernel
theorem dX11_odds_57 : decode cX11_odds 57 = .ok (.iadd, 1) := by decide +kernel
theorem dX11_odds_58 : decode cX11_odds 58 = .ok (.invokevirtual 372, 3) := by decide +kernel
theorem dX11_odds_61 : decode cX11_odds 61 = .ok (.aload_n 0, 1) := by decide +kernel
theorem dX11_odds_62 : decode cX11_odds 62 = .ok (.getfield 64, 3) := by decide +kernel
theorem dX11_odds_65 : decode cX11_odds 65 = .ok (.aload_n 0, 1) := by decide +kernel
theorem dX11_odds_66 : decode cX11_odds 66 = .ok (.getfield 51, 3) := by decide +kernel
theorem dX11_odds_69 : decode cX11_odds 69 = .ok (.bipush 20, 2) := by decide +kernel
theorem dX11_odds_71 : decode cX11_odds 71 = .ok (.invokevirtual 375, 3) := by decide +kernel
theorem dX11_odds_74 : decode cX11_odds 74 = .ok (.aload_n 0, 1) := by decide +kernel
theorem dX11_odds_75 : decode cX11_odds 75 = .ok (.getfield 51, 3) := by decide +kernel
theorem dX11_odds_78 : decode cX11_odds 78 = .ok (.invokevirtual 249, 3) := by decide +kernel
theorem dX11_odds_81 : decode cX11_odds 81 = .ok (.iconst 1, 1) := by decide +kernel
theorem dX11_odds_82 : decode cX11_odds 82 = .ok (.if_icmp .ne 6, 3) := by decide +kernel
theorem dX11_odds_85 : decode cX11_odds 85 = .ok (.iinc 3 1, 3) := by decide +kernel
theorem dX11_odds_88 : decode cX11_odds 88 = .ok (.iinc 4 1, 3) := by decide +kernel
theorem dX11_odds_91 : decode cX11_odds 91 = .ok (.goto (-58), 3) := by decide +kernel
theorem dX11_odds_94 : decode cX11_odds 94 = .ok (.iload_n 3, 1) := by decide +kernel
theorem dX11_odds_95 : decode cX11_odds 95 = .ok (.ireturn, 1) := by decide +kernel
theorem dX11_book_0 : decode cX11_book 0 = .ok (.iload_n 1, 1) := by decide +kernel
theorem dX11_book_1 : decode cX11_book 1 = .ok (.ifCond .lt 8, 3) := by decide +kernel
theorem dX11_book_4 : decode cX11_book 4 = .ok (.iload_n 1, 1) := by decide +kernel
theorem dX11_book_5 : decode cX11_book 5 = .ok (.iconst 1, 1) := by decide +kernel
theorem dX11_book_6 : decode cX11_book 6 = .ok (.if_icmp .le 7, 3) := by decide +kernel
theorem dX11_book_9 : decode cX11_book 9 = .ok (.sipush (-1000), 3) := by decide +kernel
theorem dX11_book_12 : decode cX11_book 12 = .ok (.ireturn, 1) := by decide +kernel
theorem dX11_book_13 : decode cX11_book 13 = .ok (.aload_n 0, 1) := by decide +kernel
theorem dX11_book_14 : decode cX11_book 14 = .ok (.getfield 73, 3) := by decide +kernel
theorem dX11_book_17 : decode cX11_book 17 = .ok (.aload_n 0, 1) := by decide +kernel
theorem dX11_book_18 : decode cX11_book 18 = .ok (.getfield 13, 3) := by decide +kernel
theorem dX11_book_21 : decode cX11_book 21 = .ok (.sipush 400, 3) := by decide +kernel
theorem dX11_book_24 : decode cX11_book 24 = .ok (.invokevirtual 118, 3) := by decide +kernel
theorem dX11_book_27 : decode cX11_book 27 = .ok (.aload_n 0, 1) := by decide +kernel
theorem dX11_book_28 : decode cX11_book 28 = .ok (.getfield 91, 3) := by decide +kernel
theorem dX11_book_31 : decode cX11_book 31 = .ok (.invokevirtual 385, 3) := by decide +kernel
theorem dX11_book_34 : decode cX11_book 34 = .ok (.istore_n 2, 1) := by decide +kernel
theorem dX11_book_35 : decode cX11_book 35 = .ok (.aload_n 0, 1) := by decide +kernel
theorem dX11_book_36 : decode cX11_book 36 = .ok (.aload_n 0, 1) := by decide +kernel
theorem dX11_book_37 : decode cX11_book 37 = .ok (.getfield 73, 3) := by decide +kernel
theorem dX11_book_40 : decode cX11_book 40 = .ok (.getfield 126, 3) := by decide +kernel
theorem dX11_book_43 : decode cX11_book 43 = .ok (.invokevirtual 129, 3) := by decide +kernel
theorem dX11_book_46 : decode cX11_book 46 = .ok (.iload_n 2, 1) := by decide +kernel
theorem dX11_book_47 : decode cX11_book 47 = .ok (.ifCond .ne 14, 3) := by decide +kernel
theorem dX11_book_50 : decode cX11_book 50 = .ok (.bipush (-2), 2) := by decide +kernel
theorem dX11_book_52 : decode cX11_book 52 = .ok (.aload_n 0, 1) := by decide +kernel
theorem dX11_book_53 : decode cX11_book 53 = .ok (.getfield 73, 3) := by decide +kernel
theorem dX11_book_56 : decode cX11_book 56 = .ok (.getfield 132, 3) := by decide +kernel
theorem dX11_book_59 : decode cX11_book 59 = .ok (.isub, 1) := by decide +kernel
theorem dX11_book_60 : decode cX11_book 60 = .ok (.ireturn, 1) := by decide +kernel
theorem dX11_book_61 : decode cX11_book 61 = .ok (.aload_n 0, 1) := by decide +kernel
theorem dX11_book_62 : decode cX11_book 62 = .ok (.getfield 51, 3) := by decide +kernel
theorem dX11_book_65 : decode cX11_book 65 = .ok (.aload_n 0, 1) := by decide +kernel
theorem dX11_book_66 : decode cX11_book 66 = .ok (.getfield 44, 3) := by decide +kernel
theorem dX11_book_69 : decode cX11_book 69 = .ok (.invokevirtual 310, 3) := by decide +kernel
theorem dX11_book_72 : decode cX11_book 72 = .ok (.aload_n 0, 1) := by decide +kernel
theorem dX11_book_73 : decode cX11_book 73 = .ok (.getfield 91, 3) := by decide +kernel
theorem dX11_book_76 : decode cX11_book 76 = .ok (.aload_n 0, 1) := by decide +kernel
theorem dX11_book_77 : decode cX11_book 77 = .ok (.getfield 51, 3) := by decide +kernel
theorem dX11_book_80 : decode cX11_book 80 = .ok (.invokevirtual 386, 3) := by decide +kernel
theorem dX11_book_83 : decode cX11_book 83 = .ok (.istore_n 3, 1) := by decide +kernel
theorem dX11_book_84 : decode cX11_book 84 = .ok (.iload_n 1, 1) := by decide +kernel
theorem dX11_book_85 : decode cX11_book 85 = .ok (.iconst 1, 1) := by decide +kernel
theorem dX11_book_86 : decode cX11_book 86 = .ok (.if_icmp .ne 45, 3) := by decide +kernel
theorem dX11_book_89 : decode cX11_book 89 = .ok (.aload_n 0, 1) := by decide +kernel
theorem dX11_book_90 : decode cX11_book 90 = .ok (.getfield 91, 3) := by decide +kernel
theorem dX11_book_93 : decode cX11_book 93 = .ok (.getfield 390, 3) := by decide +kernel
theorem dX11_book_96 : decode cX11_book 96 = .ok (.ifCond .le 35, 3) := by decide +kernel
theorem dX11_book_99 : decode cX11_book 99 = .ok (.aload_n 0, 1) := by decide +kernel
theorem dX11_book_100 : decode cX11_book 100 = .ok (.getfield 57, 3) := by decide +kernel
theorem dX11_book_103 : decode cX11_book 103 = .ok (.aload_n 0, 1) := by decide +kernel
theorem dX11_book_104 : decode cX11_book 104 = .ok (.getfield 20, 3) := by decide +kernel
theorem dX11_book_107 : decode cX11_book 107 = .ok (.getfield 37, 3) := by decide +kernel
theorem dX11_book_110 : decode cX11_book 110 = .ok (.invokevirtual 252, 3) := by decide +kernel
theorem dX11_book_113 : decode cX11_book 113 = .ok (.aload_n 0, 1) := by decide +kernel
theorem dX11_book_114 : decode cX11_book 114 = .ok (.getfield 57, 3) := by decide +kernel
theorem dX11_book_117 : decode cX11_book 117 = .ok (.invokevirtual 278, 3) := by decide +kernel
theorem dX11_book_120 : decode cX11_book 120 = .ok (.aload_n 0, 1) := by decide +kernel
theorem dX11_book_121 : decode cX11_book 121 = .ok (.getfield 44, 3) := by decide +kernel
theorem dX11_book_124 : decode cX11_book 124 = .ok (.aload_n 0, 1) := by decide +kernel
theorem dX11_book_125 : decode cX11_book 125 = .ok (.getfield 51, 3) := by decide +kernel
theorem dX11_book_128 : decode cX11_book 128 = .ok (.invokevirtual 310, 3) := by decide +kernel
theorem dX11_book_131 : decode cX11_book 131 = .ok (.iload_n 3, 1) := by decide +kernel
theorem dX11_book_132 : decode cX11_book 132 = .ok (.ireturn, 1) := by decide +kernel
theorem dX11_told_0 : decode cX11_told 0 = .ok (.aload_n 0, 1) := by decide +kernel
theorem dX11_told_1 : decode cX11_told 1 = .ok (.getfield 91, 3) := by decide +kernel
theorem dX11_told_4 : decode cX11_told 4 = .ok (.iload_n 1, 1) := by decide +kernel
theorem dX11_told_5 : decode cX11_told 5 = .ok (.invokevirtual 393, 3) := by decide +kernel
theorem dX11_told_8 : decode cX11_told 8 = .ok (.ireturn, 1) := by decide +kernel
theorem dX11_sentence_0 : decode cX11_sentence 0 = .ok (.aload_n 0, 1) := by decide +kernel
theorem dX11_sentence_1 : decode cX11_sentence 1 = .ok (.getfield 73, 3) := by decide +kernel
theorem dX11_sentence_4 : decode cX11_sentence 4 = .ok (.aload_n 0, 1) := by decide +kernel
theorem dX11_sentence_5 : decode cX11_sentence 5 = .ok (.getfield 13, 3) := by decide +kernel
theorem dX11_sentence_8 : decode cX11_sentence 8 = .ok (.sipush 200, 3) := by decide +kernel
theorem dX11_sentence_11 : decode cX11_sentence 11 = .ok (.invokevirtual 118, 3) := by decide +kernel
theorem dX11_sentence_14 : decode cX11_sentence 14 = .ok (.aload_n 0, 1) := by decide +kernel
theorem dX11_sentence_15 : decode cX11_sentence 15 = .ok (.getfield 24, 3) := by decide +kernel
theorem dX11_sentence_18 : decode cX11_sentence 18 = .ok (.getfield 135, 3) := by decide +kernel
theorem dX11_sentence_21 : decode cX11_sentence 21 = .ok (.aload_n 0, 1) := by decide +kernel
theorem dX11_sentence_22 : decode cX11_sentence 22 = .ok (.getfield 73, 3) := by decide +kernel
theorem dX11_sentence_25 : decode cX11_sentence 25 = .ok (.aload_n 0, 1) := by decide +kernel
theorem dX11_sentence_26 : decode cX11_sentence 26 = .ok (.getfield 20, 3) := by decide +kernel
theorem dX11_sentence_29 : decode cX11_sentence 29 = .ok (.getfield 33, 3) := by decide +kernel
theorem dX11_sentence_32 : decode cX11_sentence 32 = .ok (.invokevirtual 395, 3) := by decide +kernel
theorem dX11_sentence_35 : decode cX11_sentence 35 = .ok (.istore_n 1, 1) := by decide +kernel
theorem dX11_sentence_36 : decode cX11_sentence 36 = .ok (.aload_n 0, 1) := by decide +kernel
theorem dX11_sentence_37 : decode cX11_sentence 37 = .ok (.iconst 0, 1) := by decide +kernel
theorem dX11_sentence_38 : decode cX11_sentence 38 = .ok (.invokevirtual 129, 3) := by decide +kernel
theorem dX11_sentence_41 : decode cX11_sentence 41 = .ok (.iload_n 1, 1) := by decide +kernel
theorem dX11_sentence_42 : decode cX11_sentence 42 = .ok (.ifCond .ne 13, 3) := by decide +kernel
theorem dX11_sentence_45 : decode cX11_sentence 45 = .ok (.iconst (-1), 1) := by decide +kernel
theorem dX11_sentence_46 : decode cX11_sentence 46 = .ok (.aload_n 0, 1) := by decide +kernel
theorem dX11_sentence_47 : decode cX11_sentence 47 = .ok (.getfield 73, 3) := by decide +kernel
theorem dX11_sentence_50 : decode cX11_sentence 50 = .ok (.getfield 132, 3) := by decide +kernel
theorem dX11_sentence_53 : decode cX11_sentence 53 = .ok (.isub, 1) := by decide +kernel
theorem dX11_sentence_54 : decode cX11_sentence 54 = .ok (.ireturn, 1) := by decide +kernel
theorem dX11_sentence_55 : decode cX11_sentence 55 = .ok (.aload_n 0, 1) := by decide +kernel
theorem dX11_sentence_56 : decode cX11_sentence 56 = .ok (.getfield 20, 3) := by decide +kernel
theorem dX11_sentence_59 : decode cX11_sentence 59 = .ok (.getfield 135, 3) := by decide +kernel
theorem dX11_sentence_62 : decode cX11_sentence 62 = .ok (.aload_n 0, 1) := by decide +kernel
theorem dX11_sentence_63 : decode cX11_sentence 63 = .ok (.getfield 24, 3) := by decide +kernel
theorem dX11_sentence_66 : decode cX11_sentence 66 = .ok (.getfield 135, 3) := by decide +kernel
theorem dX11_sentence_69 : decode cX11_sentence 69 = .ok (.invokevirtual 398, 3) := by decide +kernel
theorem dX11_sentence_72 : decode cX11_sentence 72 = .ok (.aload_n 0, 1) := by decide +kernel
theorem dX11_sentence_73 : decode cX11_sentence 73 = .ok (.getfield 20, 3) := by decide +kernel
theorem dX11_sentence_76 : decode cX11_sentence 76 = .ok (.getfield 135, 3) := by decide +kernel
theorem dX11_sentence_79 : decode cX11_sentence 79 = .ok (.getfield 401, 3) := by decide +kernel
theorem dX11_sentence_82 : decode cX11_sentence 82 = .ok (.ireturn, 1) := by decide +kernel
theorem dX11_said_0 : decode cX11_said 0 = .ok (.aload_n 0, 1) := by decide +kernel
theorem dX11_said_1 : decode cX11_said 1 = .ok (.getfield 20, 3) := by decide +kernel
theorem dX11_said_4 : decode cX11_said 4 = .ok (.getfield 135, 3) := by decide +kernel
theorem dX11_said_7 : decode cX11_said 7 = .ok (.getfield 401, 3) := by decide +kernel
theorem dX11_said_10 : decode cX11_said 10 = .ok (.ifCond .eq 8, 3) := by decide +kernel
theorem dX11_said_13 : decode cX11_said 13 = .ok (.iload_n 1, 1) := by decide +kernel
theorem dX11_said_14 : decode cX11_said 14 = .ok (.iconst (-1), 1) := by decide +kernel
theorem dX11_said_15 : decode cX11_said 15 = .ok (.if_icmp .ge 5, 3) := by decide +kernel
theorem dX11_said_18 : decode cX11_said 18 = .ok (.iconst (-1), 1) := by decide +kernel
theorem dX11_said_19 : decode cX11_said 19 = .ok (.ireturn, 1) := by decide +kernel
theorem dX11_said_20 : decode cX11_said 20 = .ok (.iconst 0, 1) := by decide +kernel
theorem dX11_said_21 : decode cX11_said 21 = .ok (.istore_n 2, 1) := by decide +kernel
theorem dX11_said_22 : decode cX11_said 22 = .ok (.iconst 0, 1) := by decide +kernel
theorem dX11_said_23 : decode cX11_said 23 = .ok (.istore_n 3, 1) := by decide +kernel
theorem dX11_said_24 : decode cX11_said 24 = .ok (.iload_n 3, 1) := by decide +kernel
theorem dX11_said_25 : decode cX11_said 25 = .ok (.aload_n 0, 1) := by decide +kernel
theorem dX11_said_26 : decode cX11_said 26 = .ok (.getfield 20, 3) := by decide +kernel
theorem dX11_said_29 : decode cX11_said 29 = .ok (.getfield 33, 3) := by decide +kernel
theorem dX11_said_32 : decode cX11_said 32 = .ok (.getfield 404, 3) := by decide +kernel
theorem dX11_said_35 : decode cX11_said 35 = .ok (.if_icmp .ge 37, 3) := by decide +kernel
theorem dX11_said_38 : decode cX11_said 38 = .ok (.aload_n 0, 1) := by decide +kernel
theorem dX11_said_39 : decode cX11_said 39 = .ok (.getfield 20, 3) := by decide +kernel
theorem dX11_said_42 : decode cX11_said 42 = .ok (.getfield 135, 3) := by decide +kernel
theorem dX11_said_45 : decode cX11_said 45 = .ok (.aload_n 0, 1) := by decide +kernel
theorem dX11_said_46 : decode cX11_said 46 = .ok (.getfield 44, 3) := by decide +kernel
theorem dX11_said_49 : decode cX11_said 49 = .ok (.iload_n 3, 1) := by decide +kernel
theorem dX11_said_50 : decode cX11_said 50 = .ok (.invokevirtual 407, 3) := by decide +kernel
theorem dX11_said_53 : decode cX11_said 53 = .ok (.ifCond .eq 13, 3) := by decide +kernel
theorem dX11_said_56 : decode cX11_said 56 = .ok (.iload_n 2, 1) := by decide +kernel
theorem dX11_said_57 : decode cX11_said 57 = .ok (.iload_n 1, 1) := by decide +kernel
theorem dX11_said_58 : decode cX11_said 58 = .ok (.if_icmp .ne 5, 3) := by decide +kernel
theorem dX11_said_61 : decode cX11_said 61 = .ok (.iload_n 3, 1) := by decide +kernel
theorem dX11_said_62 : decode cX11_said 62 = .ok (.ireturn, 1) := by decide +kernel
theorem dX11_said_63 : decode cX11_said 63 = .ok (.iinc 2 1, 3) := by decide +kernel
theorem dX11_said_66 : decode cX11_said 66 = .ok (.iinc 3 1, 3) := by decide +kernel
theorem dX11_said_69 : decode cX11_said 69 = .ok (.goto (-45), 3) := by decide +kernel
theorem dX11_said_72 : decode cX11_said 72 = .ok (.iload_n 1, 1) := by decide +kernel
theorem dX11_said_73 : decode cX11_said 73 = .ok (.iconst (-1), 1) := by decide +kernel
theorem dX11_said_74 : decode cX11_said 74 = .ok (.if_icmp .ne 7, 3) := by decide +kernel
theorem dX11_said_77 : decode cX11_said 77 = .ok (.iload_n 2, 1) := by decide +kernel
theorem dX11_said_78 : decode cX11_said 78 = .ok (.goto 4, 3) := by decide +kernel
theorem dX11_said_81 : decode cX11_said 81 = .ok (.iconst (-1), 1) := by decide +kernel
theorem dX11_said_82 : decode cX11_said 82 = .ok (.ireturn, 1) := by decide +kernel
theorem dX11_image_0 : decode cX11_image 0 = .ok (.iload_n 1, 1) := by decide +kernel
theorem dX11_image_1 : decode cX11_image 1 = .ok (.ifCond .lt 8, 3) := by decide +kernel
theorem dX11_image_4 : decode cX11_image 4 = .ok (.iload_n 1, 1) := by decide +kernel
theorem dX11_image_5 : decode cX11_image 5 = .ok (.iconst 2, 1) := by decide +kernel
theorem dX11_image_6 : decode cX11_image 6 = .ok (.if_icmp .lt 5, 3) := by decide +kernel
theorem dX11_image_9 : decode cX11_image 9 = .ok (.iconst 0, 1) := by decide +kernel
theorem dX11_image_10 : decode cX11_image 10 = .ok (.ireturn, 1) := by decide +kernel
theorem dX11_image_11 : decode cX11_image 11 = .ok (.aload_n 0, 1) := by decide +kernel
theorem dX11_image_12 : decode cX11_image 12 = .ok (.getfield 27, 3) := by decide +kernel
theorem dX11_image_15 : decode cX11_image 15 = .ok (.iload_n 1, 1) := by decide +kernel
theorem dX11_image_16 : decode cX11_image 16 = .ok (.aaload, 1) := by decide +kernel
theorem dX11_image_17 : decode cX11_image 17 = .ok (.aload_n 0, 1) := by decide +kernel
theorem dX11_image_18 : decode cX11_image 18 = .ok (.getfield 20, 3) := by decide +kernel
theorem dX11_image_21 : decode cX11_image 21 = .ok (.invokevirtual 144, 3) := by decide +kernel
theorem dX11_image_24 : decode cX11_image 24 = .ok (.aload_n 0, 1) := by decide +kernel
theorem dX11_image_25 : decode cX11_image 25 = .ok (.getfield 27, 3) := by decide +kernel
theorem dX11_image_28 : decode cX11_image 28 = .ok (.iload_n 1, 1) := by decide +kernel
theorem dX11_image_29 : decode cX11_image 29 = .ok (.aaload, 1) := by decide +kernel
theorem dX11_image_30 : decode cX11_image 30 = .ok (.iconst 1, 1) := by decide +kernel
theorem dX11_image_31 : decode cX11_image 31 = .ok (.putfield 411, 3) := by decide +kernel
theorem dX11_image_34 : decode cX11_image 34 = .ok (.iconst 1, 1) := by decide +kernel
theorem dX11_image_35 : decode cX11_image 35 = .ok (.ireturn, 1) := by decide +kernel
theorem dX11_restore_0 : decode cX11_restore 0 = .ok (.iload_n 1, 1) := by decide +kernel
theorem dX11_restore_1 : decode cX11_restore 1 = .ok (.ifCond .lt 20, 3) := by decide +kernel
theorem dX11_restore_4 : decode cX11_restore 4 = .ok (.iload_n 1, 1) := by decide +kernel
theorem dX11_restore_5 : decode cX11_restore 5 = .ok (.iconst 2, 1) := by decide +kernel
theorem dX11_restore_6 : decode cX11_restore 6 = .ok (.if_icmp .ge 15, 3) := by decide +kernel
theorem dX11_restore_9 : decode cX11_restore 9 = .ok (.aload_n 0, 1) := by decide +kernel
theorem dX11_restore_10 : decode cX11_restore 10 = .ok (.getfield 27, 3) := by decide +kernel
theorem dX11_restore_13 : decode cX11_restore 13 = .ok (.iload_n 1, 1) := by decide +kernel
theorem dX11_restore_14 : decode cX11_restore 14 = .ok (.aaload, 1) := by decide +kernel
theorem dX11_restore_15 : decode cX11_restore 15 = .ok (.getfield 411, 3) := by decide +kernel
theorem dX11_restore_18 : decode cX11_restore 18 = .ok (.ifCond .ne 5, 3) := by decide +kernel
theorem dX11_restore_21 : decode cX11_restore 21 = .ok (.iconst 0, 1) := by decide +kernel
theorem dX11_restore_22 : decode cX11_restore 22 = .ok (.ireturn, 1) := by decide +kernel
theorem dX11_restore_23 : decode cX11_restore 23 = .ok (.aload_n 0, 1) := by decide +kernel
theorem dX11_restore_24 : decode cX11_restore 24 = .ok (.getfield 20, 3) := by decide +kernel
theorem dX11_restore_27 : decode cX11_restore 27 = .ok (.aload_n 0, 1) := by decide +kernel
theorem dX11_restore_28 : decode cX11_restore 28 = .ok (.getfield 27, 3) := by decide +kernel
theorem dX11_restore_31 : decode cX11_restore 31 = .ok (.iload_n 1, 1) := by decide +kernel
theorem dX11_restore_32 : decode cX11_restore 32 = .ok (.aaload, 1) := by decide +kernel
theorem dX11_restore_33 : decode cX11_restore 33 = .ok (.invokevirtual 144, 3) := by decide +kernel
theorem dX11_restore_36 : decode cX11_restore 36 = .ok (.aload_n 0, 1) := by decide +kernel
theorem dX11_restore_37 : decode cX11_restore 37 = .ok (.getfield 44, 3) := by decide +kernel
theorem dX11_restore_40 : decode cX11_restore 40 = .ok (.invokevirtual 148, 3) := by decide +kernel
theorem dX11_restore_43 : decode cX11_restore 43 = .ok (.aload_n 0, 1) := by decide +kernel
theorem dX11_restore_44 : decode cX11_restore 44 = .ok (.getfield 57, 3) := by decide +kernel
theorem dX11_restore_47 : decode cX11_restore 47 = .ok (.invokevirtual 151, 3) := by decide +kernel
theorem dX11_restore_50 : decode cX11_restore 50 = .ok (.iconst 1, 1) := by decide +kernel
theorem dX11_restore_51 : decode cX11_restore 51 = .ok (.ireturn, 1) := by decide +kernel
theorem dX11_count_0 : decode cX11_count 0 = .ok (.iload_n 1, 1) := by decide +kernel
theorem dX11_count_1 : decode cX11_count 1 = .ok (.tableswitch 99 0 5 #[39, 50, 61, 72, 83, 94], 39) := by decide +kernel
theorem dX11_count_40 : decode cX11_count 40 = .ok (.aload_n 0, 1) := by decide +kernel
theorem dX11_count_41 : decode cX11_count 41 = .ok (.getfield 20, 3) := by decide +kernel
theorem dX11_count_44 : decode cX11_count 44 = .ok (.getfield 33, 3) := by decide +kernel
theorem dX11_count_47 : decode cX11_count 47 = .ok (.getfield 404, 3) := by decide +kernel
theorem dX11_count_50 : decode cX11_count 50 = .ok (.ireturn, 1) := by decide +kernel
theorem dX11_count_51 : decode cX11_count 51 = .ok (.aload_n 0, 1) := by decide +kernel
theorem dX11_count_52 : decode cX11_count 52 = .ok (.getfield 20, 3) := by decide +kernel
theorem dX11_count_55 : decode cX11_count 55 = .ok (.getfield 33, 3) := by decide +kernel
theorem dX11_count_58 : decode cX11_count 58 = .ok (.getfield 415, 3) := by decide +kernel
theorem dX11_count_61 : decode cX11_count 61 = .ok (.ireturn, 1) := by decide +kernel
theorem dX11_count_62 : decode cX11_count 62 = .ok (.aload_n 0, 1) := by decide +kernel
theorem dX11_count_63 : decode cX11_count 63 = .ok (.getfield 20, 3) := by decide +kernel
theorem dX11_count_66 : decode cX11_count 66 = .ok (.getfield 33, 3) := by decide +kernel
theorem dX11_count_69 : decode cX11_count 69 = .ok (.getfield 418, 3) := by decide +kernel
theorem dX11_count_72 : decode cX11_count 72 = .ok (.ireturn, 1) := by decide +kernel
theorem dX11_count_73 : decode cX11_count 73 = .ok (.aload_n 0, 1) := by decide +kernel
theorem dX11_count_74 : decode cX11_count 74 = .ok (.getfield 20, 3) := by decide +kernel
theorem dX11_count_77 : decode cX11_count 77 = .ok (.getfield 33, 3) := by decide +kernel
theorem dX11_count_80 : decode cX11_count 80 = .ok (.getfield 421, 3) := by decide +kernel
theorem dX11_count_83 : decode cX11_count 83 = .ok (.ireturn, 1) := by decide +kernel
theorem dX11_count_84 : decode cX11_count 84 = .ok (.aload_n 0, 1) := by decide +kernel
theorem dX11_count_85 : decode cX11_count 85 = .ok (.getfield 20, 3) := by decide +kernel
theorem dX11_count_88 : decode cX11_count 88 = .ok (.getfield 33, 3) := by decide +kernel
theorem dX11_count_91 : decode cX11_count 91 = .ok (.getfield 424, 3) := by decide +kernel
theorem dX11_count_94 : decode cX11_count 94 = .ok (.ireturn, 1) := by decide +kernel
theorem dX11_count_95 : decode cX11_count 95 = .ok (.aload_n 0, 1) := by decide +kernel
theorem dX11_count_96 : decode cX11_count 96 = .ok (.getfield 13, 3) := by decide +kernel
theorem dX11_count_99 : decode cX11_count 99 = .ok (.ireturn, 1) := by decide +kernel
theorem dX11_count_100 : decode cX11_count 100 = .ok (.iconst (-1), 1) := by decide +kernel
theorem dX11_count_101 : decode cX11_count 101 = .ok (.ireturn, 1) := by decide +kernel
theorem dX11_isKey_0 : decode cX11_isKey 0 = .ok (.iload_n 1, 1) := by decide +kernel
theorem dX11_isKey_1 : decode cX11_isKey 1 = .ok (.ifCond .lt 21, 3) := by decide +kernel
theorem dX11_isKey_4 : decode cX11_isKey 4 = .ok (.iload_n 1, 1) := by decide +kernel
theorem dX11_isKey_5 : decode cX11_isKey 5 = .ok (.aload_n 0, 1) := by decide +kernel
theorem dX11_isKey_6 : decode cX11_isKey 6 = .ok (.getfield 20, 3) := by decide +kernel
theorem dX11_isKey_9 : decode cX11_isKey 9 = .ok (.getfield 33, 3) := by decide +kernel
theorem dX11_isKey_12 : decode cX11_isKey 12 = .ok (.getfield 404, 3) := by decide +kernel
theorem dX11_isKey_15 : decode cX11_isKey 15 = .ok (.if_icmp .ge 7, 3) := by decide +kernel
theorem dX11_isKey_18 : decode cX11_isKey 18 = .ok (.iconst 1, 1) := by decide +kernel
theorem dX11_isKey_19 : decode cX11_isKey 19 = .ok (.goto 4, 3) := by decide +kernel
theorem dX11_isKey_22 : decode cX11_isKey 22 = .ok (.iconst 0, 1) := by decide +kernel
theorem dX11_isKey_23 : decode cX11_isKey 23 = .ok (.ireturn, 1) := by decide +kernel
theorem dX11_isPeer_0 : decode cX11_isPeer 0 = .ok (.iload_n 1, 1) := by decide +kernel
theorem dX11_isPeer_1 : decode cX11_isPeer 1 = .ok (.ifCond .lt 21, 3) := by decide +kernel
theorem dX11_isPeer_4 : decode cX11_isPeer 4 = .ok (.iload_n 1, 1) := by decide +kernel
theorem dX11_isPeer_5 : decode cX11_isPeer 5 = .ok (.aload_n 0, 1) := by decide +kernel
theorem dX11_isPeer_6 : decode cX11_isPeer 6 = .ok (.getfield 20, 3) := by decide +kernel
theorem dX11_isPeer_9 : decode cX11_isPeer 9 = .ok (.getfield 33, 3) := by decide +kernel
theorem dX11_isPeer_12 : decode cX11_isPeer 12 = .ok (.getfield 415, 3) := by decide +kernel
theorem dX11_isPeer_15 : decode cX11_isPeer 15 = .ok (.if_icmp .ge 7, 3) := by decide +kernel
theorem dX11_isPeer_18 : decode cX11_isPeer 18 = .ok (.iconst 1, 1) := by decide +kernel
theorem dX11_isPeer_19 : decode cX11_isPeer 19 = .ok (.goto 4, 3) := by decide +kernel
theorem dX11_isPeer_22 : decode cX11_isPeer 22 = .ok (.iconst 0, 1) := by decide +kernel
theorem dX11_isPeer_23 : decode cX11_isPeer 23 = .ok (.ireturn, 1) := by decide +kernel
theorem dX11_areTwo_0 : decode cX11_areTwo 0 = .ok (.aload_n 0, 1) := by decide +kernel
theorem dX11_areTwo_1 : decode cX11_areTwo 1 = .ok (.iload_n 1, 1) := by decide +kernel
theorem dX11_areTwo_2 : decode cX11_areTwo 2 = .ok (.invokevirtual 179, 3) := by decide +kernel
theorem dX11_areTwo_5 : decode cX11_areTwo 5 = .ok (.ifCond .eq 20, 3) := by decide +kernel
theorem dX11_areTwo_8 : decode cX11_areTwo 8 = .ok (.aload_n 0, 1) := by decide +kernel
theorem dX11_areTwo_9 : decode cX11_areTwo 9 = .ok (.iload_n 2, 1) := by decide +kernel
theorem dX11_areTwo_10 : decode cX11_areTwo 10 = .ok (.invokevirtual 179, 3) := by decide +kernel
theorem dX11_areTwo_13 : decode cX11_areTwo 13 = .ok (.ifCond .eq 12, 3) := by decide +kernel
theorem dX11_areTwo_16 : decode cX11_areTwo 16 = .ok (.iload_n 1, 1) := by decide +kernel
theorem dX11_areTwo_17 : decode cX11_areTwo 17 = .ok (.iload_n 2, 1) := by decide +kernel
theorem dX11_areTwo_18 : decode cX11_areTwo 18 = .ok (.if_icmp .eq 7, 3) := by decide +kernel
theorem dX11_areTwo_21 : decode cX11_areTwo 21 = .ok (.iconst 1, 1) := by decide +kernel
theorem dX11_areTwo_22 : decode cX11_areTwo 22 = .ok (.goto 4, 3) := by decide +kernel
theorem dX11_areTwo_25 : decode cX11_areTwo 25 = .ok (.iconst 0, 1) := by decide +kernel
theorem dX11_areTwo_26 : decode cX11_areTwo 26 = .ok (.ireturn, 1) := by decide +kernel
theorem dX11_mix_0 : decode cX11_mix 0 = .ok (.iload_n 0, 1) := by decide +kernel
theorem dX11_mix_1 : decode cX11_mix 1 = .ok (.iload_n 1, 1) := by decide +kernel
theorem dX11_mix_2 : decode cX11_mix 2 = .ok (.ixor, 1) := by decide +kernel
theorem dX11_mix_3 : decode cX11_mix 3 = .ok (.ldc_w 427, 3) := by decide +kernel
theorem dX11_mix_6 : decode cX11_mix 6 = .ok (.imul, 1) := by decide +kernel
theorem dX11_mix_7 : decode cX11_mix 7 = .ok (.istore_n 2, 1) := by decide +kernel
theorem dX11_mix_8 : decode cX11_mix 8 = .ok (.iload_n 2, 1) := by decide +kernel
theorem dX11_mix_9 : decode cX11_mix 9 = .ok (.iload_n 2, 1) := by decide +kernel
theorem dX11_mix_10 : decode cX11_mix 10 = .ok (.bipush 15, 2) := by decide +kernel
theorem dX11_mix_12 : decode cX11_mix 12 = .ok (.iushr, 1) := by decide +kernel
theorem dX11_mix_13 : decode cX11_mix 13 = .ok (.ixor, 1) := by decide +kernel
theorem dX11_mix_14 : decode cX11_mix 14 = .ok (.ireturn, 1) := by decide +kernel
theorem dX12_thrown_0 : decode cX12_thrown 0 = .ok (.aload_n 0, 1) := by decide +kernel
theorem dX12_thrown_1 : decode cX12_thrown 1 = .ok (.getfield 1, 3) := by decide +kernel
theorem dX12_thrown_4 : decode cX12_thrown 4 = .ok (.ireturn, 1) := by decide +kernel
theorem dX12_refuse_0 : decode cX12_refuse 0 = .ok (.aload_n 0, 1) := by decide +kernel
theorem dX12_refuse_1 : decode cX12_refuse 1 = .ok (.iconst 1, 1) := by decide +kernel
theorem dX12_refuse_2 : decode cX12_refuse 2 = .ok (.putfield 1, 3) := by decide +kernel
theorem dX12_refuse_5 : decode cX12_refuse 5 = .ok (.iconst 0, 1) := by decide +kernel
theorem dX12_refuse_6 : decode cX12_refuse 6 = .ok (.ireturn, 1) := by decide +kernel
theorem dX12_come_0 : decode cX12_come 0 = .ok (.bipush 24, 2) := by decide +kernel
theorem dX12_come_2 : decode cX12_come 2 = .ok (.istore_n 2, 1) := by decide +kernel
theorem dX12_come_3 : decode cX12_come 3 = .ok (.iload_n 2, 1) := by decide +kernel
theorem dX12_come_4 : decode cX12_come 4 = .ok (.ifCond .lt 35, 3) := by decide +kernel
theorem dX12_come_7 : decode cX12_come 7 = .ok (.aload_n 0, 1) := by decide +kernel
theorem dX12_come_8 : decode cX12_come 8 = .ok (.getfield 7, 3) := by decide +kernel
theorem dX12_come_11 : decode cX12_come 11 = .ok (.aload_n 0, 1) := by decide +kernel
theorem dX12_come_12 : decode cX12_come 12 = .ok (.getfield 11, 3) := by decide +kernel
theorem dX12_come_15 : decode cX12_come 15 = .ok (.iload_n 1, 1) := by decide +kernel
theorem dX12_come_16 : decode cX12_come 16 = .ok (.iload_n 2, 1) := by decide +kernel
theorem dX12_come_17 : decode cX12_come 17 = .ok (.iushr, 1) := by decide +kernel
theorem dX12_come_18 : decode cX12_come 18 = .ok (.sipush 255, 3) := by decide +kernel
theorem dX12_come_21 : decode cX12_come 21 = .ok (.iand, 1) := by decide +kernel
theorem dX12_come_22 : decode cX12_come 22 = .ok (.iastore, 1) := by decide +kernel
theorem dX12_come_23 : decode cX12_come 23 = .ok (.aload_n 0, 1) := by decide +kernel
theorem dX12_come_24 : decode cX12_come 24 = .ok (.dup, 1) := by decide +kernel
theorem dX12_come_25 : decode cX12_come 25 = .ok (.getfield 11, 3) := by decide +kernel
theorem dX12_come_28 : decode cX12_come 28 = .ok (.iconst 1, 1) := by decide +kernel
theorem dX12_come_29 : decode cX12_come 29 = .ok (.iadd, 1) := by decide +kernel
theorem dX12_come_30 : decode cX12_come 30 = .ok (.putfield 11, 3) := by decide +kernel
theorem dX12_come_33 : decode cX12_come 33 = .ok (.iinc 2 (-8), 3) := by decide +kernel
theorem dX12_come_36 : decode cX12_come 36 = .ok (.goto (-33), 3) := by decide +kernel
theorem dX12_come_39 : decode cX12_come 39 = .ok (.return_, 1) := by decide +kernel
theorem dX12_feed_0 : decode cX12_feed 0 = .ok (.aload_n 0, 1) := by decide +kernel
theorem dX12_feed_1 : decode cX12_feed 1 = .ok (.iconst 0, 1) := by decide +kernel
theorem dX12_feed_2 : decode cX12_feed 2 = .ok (.putfield 1, 3) := by decide +kernel
theorem dX12_feed_5 : decode cX12_feed 5 = .ok (.aload_n 0, 1) := by decide +kernel
theorem dX12_feed_6 : decode cX12_feed 6 = .ok (.getfield 11, 3) := by decide +kernel
theorem dX12_feed_9 : decode cX12_feed 9 = .ok (.bipush 20, 2) := by decide +kernel
theorem dX12_feed_11 : decode cX12_feed 11 = .ok (.iadd, 1) := by decide +kernel
theorem dX12_feed_12 : decode cX12_feed 12 = .ok (.sipush 940, 3) := by decide +kernel
theorem dX12_feed_15 : decode cX12_feed 15 = .ok (.if_icmp .le 5, 3) := by decide +kernel
theorem dX12_feed_18 : decode cX12_feed 18 = .ok (.iconst (-1), 1) := by decide +kernel
theorem dX12_feed_19 : decode cX12_feed 19 = .ok (.ireturn, 1) := by decide +kernel
theorem dX12_feed_20 : decode cX12_feed 20 = .ok (.aload_n 0, 1) := by decide +kernel
theorem dX12_feed_21 : decode cX12_feed 21 = .ok (.iload_n 1, 1) := by decide +kernel
theorem dX12_feed_22 : decode cX12_feed 22 = .ok (.invokevirtual 14, 3) := by decide +kernel
theorem dX12_feed_25 : decode cX12_feed 25 = .ok (.aload_n 0, 1) := by decide +kernel
theorem dX12_feed_26 : decode cX12_feed 26 = .ok (.iload_n 2, 1) := by decide +kernel
theorem dX12_feed_27 : decode cX12_feed 27 = .ok (.invokevirtual 14, 3) := by decide +kernel
theorem dX12_feed_30 : decode cX12_feed 30 = .ok (.aload_n 0, 1) := by decide +kernel
theorem dX12_feed_31 : decode cX12_feed 31 = .ok (.iload_n 3, 1) := by decide +kernel
theorem dX12_feed_32 : decode cX12_feed 32 = .ok (.invokevirtual 14, 3) := by decide +kernel
theorem dX12_feed_35 : decode cX12_feed 35 = .ok (.aload_n 0, 1) := by decide +kernel
theorem dX12_feed_36 : decode cX12_feed 36 = .ok (.iload 4, 2) := by decide +kernel
theorem dX12_feed_38 : decode cX12_feed 38 = .ok (.invokevirtual 14, 3) := by decide +kernel
theorem dX12_feed_41 : decode cX12_feed 41 = .ok (.aload_n 0, 1) := by decide +kernel
theorem dX12_feed_42 : decode cX12_feed 42 = .ok (.iload 5, 2) := by decide +kernel
theorem dX12_feed_44 : decode cX12_feed 44 = .ok (.invokevirtual 14, 3) := by decide +kernel
theorem dX12_feed_47 : decode cX12_feed 47 = .ok (.aload_n 0, 1) := by decide +kernel
theorem dX12_feed_48 : decode cX12_feed 48 = .ok (.getfield 11, 3) := by decide +kernel
theorem dX12_feed_51 : decode cX12_feed 51 = .ok (.ireturn, 1) := by decide +kernel
theorem dX12_end_0 : decode cX12_end 0 = .ok (.aload_n 0, 1) := by decide +kernel
theorem dX12_end_1 : decode cX12_end 1 = .ok (.iconst 0, 1) := by decide +kernel
theorem dX12_end_2 : decode cX12_end 2 = .ok (.putfield 1, 3) := by decide +kernel
theorem dX12_end_5 : decode cX12_end 5 = .ok (.iload_n 1, 1) := by decide +kernel
theorem dX12_end_6 : decode cX12_end 6 = .ok (.ifCond .lt 11, 3) := by decide +kernel
theorem dX12_end_9 : decode cX12_end 9 = .ok (.iload_n 1, 1) := by decide +kernel
theorem dX12_end_10 : decode cX12_end 10 = .ok (.aload_n 0, 1) := by decide +kernel
theorem dX12_end_11 : decode cX12_end 11 = .ok (.getfield 11, 3) := by decide +kernel
theorem dX12_end_14 : decode cX12_end 14 = .ok (.if_icmp .le 5, 3) := by decide +kernel
theorem dX12_end_17 : decode cX12_end 17 = .ok (.iconst 0, 1) := by decide +kernel
theorem dX12_end_18 : decode cX12_end 18 = .ok (.ireturn, 1) := by decide +kernel
theorem dX12_end_19 : decode cX12_end 19 = .ok (.aload_n 0, 1) := by decide +kernel
theorem dX12_end_20 : decode cX12_end 20 = .ok (.iload_n 1, 1) := by decide +kernel
theorem dX12_end_21 : decode cX12_end 21 = .ok (.putfield 11, 3) := by decide +kernel
theorem dX12_end_24 : decode cX12_end 24 = .ok (.iconst 1, 1) := by decide +kernel
theorem dX12_end_25 : decode cX12_end 25 = .ok (.ireturn, 1) := by decide +kernel
theorem dX12_take_0 : decode cX12_take 0 = .ok (.aload_n 0, 1) := by decide +kernel
theorem dX12_take_1 : decode cX12_take 1 = .ok (.getfield 11, 3) := by decide +kernel
theorem dX12_take_4 : decode cX12_take 4 = .ok (.istore_n 1, 1) := by decide +kernel
theorem dX12_take_5 : decode cX12_take 5 = .ok (.aload_n 0, 1) := by decide +kernel
theorem dX12_take_6 : decode cX12_take 6 = .ok (.iconst 0, 1) := by decide +kernel
theorem dX12_take_7 : decode cX12_take 7 = .ok (.putfield 11, 3) := by decide +kernel
theorem dX12_take_10 : decode cX12_take 10 = .ok (.iload_n 1, 1) := by decide +kernel
theorem dX12_take_11 : decode cX12_take 11 = .ok (.ireturn, 1) := by decide +kernel
theorem dX12_isIn_0 : decode cX12_isIn 0 = .ok (.iload_n 0, 1) := by decide +kernel
theorem dX12_isIn_1 : decode cX12_isIn 1 = .ok (.iload_n 1, 1) := by decide +kernel
theorem dX12_isIn_2 : decode cX12_isIn 2 = .ok (.if_icmp .lt 12, 3) := by decide +kernel
theorem dX12_isIn_5 : decode cX12_isIn 5 = .ok (.iload_n 0, 1) := by decide +kernel
theorem dX12_isIn_6 : decode cX12_isIn 6 = .ok (.iload_n 2, 1) := by decide +kernel
theorem dX12_isIn_7 : decode cX12_isIn 7 = .ok (.if_icmp .gt 7, 3) := by decide +kernel
theorem dX12_isIn_10 : decode cX12_isIn 10 = .ok (.iconst 1, 1) := by decide +kernel
theorem dX12_isIn_11 : decode cX12_isIn 11 = .ok (.goto 4, 3) := by decide +kernel
theorem dX12_isIn_14 : decode cX12_isIn 14 = .ok (.iconst 0, 1) := by decide +kernel
theorem dX12_isIn_15 : decode cX12_isIn 15 = .ok (.ireturn, 1) := by decide +kernel
theorem dX12_has_0 : decode cX12_has 0 = .ok (.iload_n 0, 1) := by decide +kernel
theorem dX12_has_1 : decode cX12_has 1 = .ok (.iload_n 1, 1) := by decide +kernel
theorem dX12_has_2 : decode cX12_has 2 = .ok (.ishr, 1) := by decide +kernel
theorem dX12_has_3 : decode cX12_has 3 = .ok (.iconst 1, 1) := by decide +kernel
theorem dX12_has_4 : decode cX12_has 4 = .ok (.iand, 1) := by decide +kernel
theorem dX12_has_5 : decode cX12_has 5 = .ok (.iconst 1, 1) := by decide +kernel
theorem dX12_has_6 : decode cX12_has 6 = .ok (.if_icmp .ne 7, 3) := by decide +kernel
theorem dX12_has_9 : decode cX12_has 9 = .ok (.iconst 1, 1) := by decide +kernel
theorem dX12_has_10 : decode cX12_has 10 = .ok (.goto 4, 3) := by decide +kernel
theorem dX12_has_13 : decode cX12_has 13 = .ok (.iconst 0, 1) := by decide +kernel
theorem dX12_has_14 : decode cX12_has 14 = .ok (.ireturn, 1) := by decide +kernel
theorem dX12_bits_0 : decode cX12_bits 0 = .ok (.iconst 0, 1) := by decide +kernel
theorem dX12_bits_1 : decode cX12_bits 1 = .ok (.istore_n 1, 1) := by decide +kernel
theorem dX12_bits_2 : decode cX12_bits 2 = .ok (.iload_n 0, 1) := by decide +kernel
theorem dX12_bits_3 : decode cX12_bits 3 = .ok (.istore_n 2, 1) := by decide +kernel
theorem dX12_bits_4 : decode cX12_bits 4 = .ok (.iload_n 2, 1) := by decide +kernel
theorem dX12_bits_5 : decode cX12_bits 5 = .ok (.ifCond .eq 15, 3) := by decide +kernel
theorem dX12_bits_8 : decode cX12_bits 8 = .ok (.iinc 1 1, 3) := by decide +kernel
theorem dX12_bits_11 : decode cX12_bits 11 = .ok (.iload_n 2, 1) := by decide +kernel
theorem dX12_bits_12 : decode cX12_bits 12 = .ok (.iload_n 2, 1) := by decide +kernel
theorem dX12_bits_13 : decode cX12_bits 13 = .ok (.iconst 1, 1) := by decide +kernel
theorem dX12_bits_14 : decode cX12_bits 14 = .ok (.isub, 1) := by decide +kernel
theorem dX12_bits_15 : decode cX12_bits 15 = .ok (.iand, 1) := by decide +kernel
theorem dX12_bits_16 : decode cX12_bits 16 = .ok (.istore_n 2, 1) := by decide +kernel
theorem dX12_bits_17 : decode cX12_bits 17 = .ok (.goto (-13), 3) := by decide +kernel
theorem dX12_bits_20 : decode cX12_bits 20 = .ok (.iload_n 1, 1) := by decide +kernel
theorem dX12_bits_21 : decode cX12_bits 21 = .ok (.ireturn, 1) := by decide +kernel
theorem dX12_least_0 : decode cX12_least 0 = .ok (.iload_n 0, 1) := by decide +kernel
theorem dX12_least_1 : decode cX12_least 1 = .ok (.iload_n 1, 1) := by decide +kernel
theorem dX12_least_2 : decode cX12_least 2 = .ok (.if_icmp .ge 7, 3) := by decide +kernel
theorem dX12_least_5 : decode cX12_least 5 = .ok (.iload_n 0, 1) := by decide +kernel
theorem dX12_least_6 : decode cX12_least 6 = .ok (.goto 4, 3) := by decide +kernel
theorem dX12_least_9 : decode cX12_least 9 = .ok (.iload_n 1, 1) := by decide +kernel
theorem dX12_least_10 : decode cX12_least 10 = .ok (.ireturn, 1) := by decide +kernel
theorem dX12_common_0 : decode cX12_common 0 = .ok (.iload_n 0, 1) := by decide +kernel
theorem dX12_common_1 : decode cX12_common 1 = .ok (.istore_n 2, 1) := by decide +kernel
theorem dX12_common_2 : decode cX12_common 2 = .ok (.iload_n 1, 1) := by decide +kernel
theorem dX12_common_3 : decode cX12_common 3 = .ok (.istore_n 3, 1) := by decide +kernel
theorem dX12_common_4 : decode cX12_common 4 = .ok (.iload_n 3, 1) := by decide +kernel
theorem dX12_common_5 : decode cX12_common 5 = .ok (.ifCond .eq 16, 3) := by decide +kernel
theorem dX12_common_8 : decode cX12_common 8 = .ok (.iload_n 2, 1) := by decide +kernel
theorem dX12_common_9 : decode cX12_common 9 = .ok (.iload_n 3, 1) := by decide +kernel
theorem dX12_common_10 : decode cX12_common 10 = .ok (.irem, 1) := by decide +kernel
theorem dX12_common_11 : decode cX12_common 11 = .ok (.istore 4, 2) := by decide +kernel
theorem dX12_common_13 : decode cX12_common 13 = .ok (.iload_n 3, 1) := by decide +kernel
theorem dX12_common_14 : decode cX12_common 14 = .ok (.istore_n 2, 1) := by decide +kernel
theorem dX12_common_15 : decode cX12_common 15 = .ok (.iload 4, 2) := by decide +kernel
theorem dX12_common_17 : decode cX12_common 17 = .ok (.istore_n 3, 1) := by decide +kernel
theorem dX12_common_18 : decode cX12_common 18 = .ok (.goto (-14), 3) := by decide +kernel
theorem dX12_common_21 : decode cX12_common 21 = .ok (.iload_n 2, 1) := by decide +kernel
theorem dX12_common_22 : decode cX12_common 22 = .ok (.ireturn, 1) := by decide +kernel
theorem dX12_tapeAt_0 : decode cX12_tapeAt 0 = .ok (.iload_n 1, 1) := by decide +kernel
theorem dX12_tapeAt_1 : decode cX12_tapeAt 1 = .ok (.aload_n 0, 1) := by decide +kernel
theorem dX12_tapeAt_2 : decode cX12_tapeAt 2 = .ok (.getfield 18, 3) := by decide +kernel
theorem dX12_tapeAt_5 : decode cX12_tapeAt 5 = .ok (.if_icmp .ge 12, 3) := by decide +kernel
theorem dX12_tapeAt_8 : decode cX12_tapeAt 8 = .ok (.aload_n 0, 1) := by decide +kernel
theorem dX12_tapeAt_9 : decode cX12_tapeAt 9 = .ok (.getfield 7, 3) := by decide +kernel
theorem dX12_tapeAt_12 : decode cX12_tapeAt 12 = .ok (.iload_n 1, 1) := by decide +kernel
theorem dX12_tapeAt_13 : decode cX12_tapeAt 13 = .ok (.iaload, 1) := by decide +kernel
theorem dX12_tapeAt_14 : decode cX12_tapeAt 14 = .ok (.goto 4, 3) := by decide +kernel
theorem dX12_tapeAt_17 : decode cX12_tapeAt 17 = .ok (.iconst 0, 1) := by decide +kernel
theorem dX12_tapeAt_18 : decode cX12_tapeAt 18 = .ok (.ireturn, 1) := by decide +kernel
theorem dX12_isDigit_0 : decode cX12_isDigit 0 = .ok (.iload_n 0, 1) := by decide +kernel
theorem dX12_isDigit_1 : decode cX12_isDigit 1 = .ok (.bipush 48, 2) := by decide +kernel
theorem dX12_isDigit_3 : decode cX12_isDigit 3 = .ok (.if_icmp .lt 13, 3) := by decide +kernel
theorem dX12_isDigit_6 : decode cX12_isDigit 6 = .ok (.iload_n 0, 1) := by decide +kernel
theorem dX12_isDigit_7 : decode cX12_isDigit 7 = .ok (.bipush 57, 2) := by decide +kernel
theorem dX12_isDigit_9 : decode cX12_isDigit 9 = .ok (.if_icmp .gt 7, 3) := by decide +kernel
theorem dX12_isDigit_12 : decode cX12_isDigit 12 = .ok (.iconst 1, 1) := by decide +kernel
theorem dX12_isDigit_13 : decode cX12_isDigit 13 = .ok (.goto 4, 3) := by decide +kernel
theorem dX12_isDigit_16 : decode cX12_isDigit 16 = .ok (.iconst 0, 1) := by decide +kernel
theorem dX12_isDigit_17 : decode cX12_isDigit 17 = .ok (.ireturn, 1) := by decide +kernel
theorem dX12_isLetter_0 : decode cX12_isLetter 0 = .ok (.iload_n 0, 1) := by decide +kernel
theorem dX12_isLetter_1 : decode cX12_isLetter 1 = .ok (.bipush 97, 2) := by decide +kernel
theorem dX12_isLetter_3 : decode cX12_isLetter 3 = .ok (.if_icmp .lt 13, 3) := by decide +kernel
theorem dX12_isLetter_6 : decode cX12_isLetter 6 = .ok (.iload_n 0, 1) := by decide +kernel
theorem dX12_isLetter_7 : decode cX12_isLetter 7 = .ok (.bipush 122, 2) := by decide +kernel
theorem dX12_isLetter_9 : decode cX12_isLetter 9 = .ok (.if_icmp .gt 7, 3) := by decide +kernel
theorem dX12_isLetter_12 : decode cX12_isLetter 12 = .ok (.iconst 1, 1) := by decide +kernel
theorem dX12_isLetter_13 : decode cX12_isLetter 13 = .ok (.goto 4, 3) := by decide +kernel
theorem dX12_isLetter_16 : decode cX12_isLetter 16 = .ok (.iconst 0, 1) := by decide +kernel
theorem dX12_isLetter_17 : decode cX12_isLetter 17 = .ok (.ireturn, 1) := by decide +kernel
theorem dX12_go_0 : decode cX12_go 0 = .ok (.aload_n 0, 1) := by decide +kernel
theorem dX12_go_1 : decode cX12_go 1 = .ok (.getfield 21, 3) := by decide +kernel
theorem dX12_go_4 : decode cX12_go 4 = .ok (.aload_n 0, 1) := by decide +kernel
theorem dX12_go_5 : decode cX12_go 5 = .ok (.getfield 18, 3) := by decide +kernel
theorem dX12_go_8 : decode cX12_go 8 = .ok (.if_icmp .ge 44, 3) := by decide +kernel
theorem dX12_go_11 : decode cX12_go 11 = .ok (.aload_n 0, 1) := by decide +kernel
theorem dX12_go_12 : decode cX12_go 12 = .ok (.getfield 7, 3) := by decide +kernel
theorem dX12_go_15 : decode cX12_go 15 = .ok (.aload_n 0, 1) := by decide +kernel
theorem dX12_go_16 : decode cX12_go 16 = .ok (.getfield 21, 3) := by decide +kernel
theorem dX12_go_19 : decode cX12_go 19 = .ok (.iaload, 1) := by decide +kernel
theorem dX12_go_20 : decode cX12_go 20 = .ok (.bipush 32, 2) := by decide +kernel
theorem dX12_go_22 : decode cX12_go 22 = .ok (.if_icmp .eq 17, 3) := by decide +kernel
theorem dX12_go_25 : decode cX12_go 25 = .ok (.aload_n 0, 1) := by decide +kernel
theorem dX12_go_26 : decode cX12_go 26 = .ok (.getfield 7, 3) := by decide +kernel
theorem dX12_go_29 : decode cX12_go 29 = .ok (.aload_n 0, 1) := by decide +kernel
theorem dX12_go_30 : decode cX12_go 30 = .ok (.getfield 21, 3) := by decide +kernel
theorem dX12_go_33 : decode cX12_go 33 = .ok (.iaload, 1) := by decide +kernel
theorem dX12_go_34 : decode cX12_go 34 = .ok (.bipush 10, 2) := by decide +kernel
theorem dX12_go_36 : decode cX12_go 36 = .ok (.if_icmp .ne 16, 3) := by decide +kernel
theorem dX12_go_39 : decode cX12_go 39 = .ok (.aload_n 0, 1) := by decide +kernel
theorem dX12_go_40 : decode cX12_go 40 = .ok (.dup, 1) := by decide +kernel
theorem dX12_go_41 : decode cX12_go 41 = .ok (.getfield 21, 3) := by decide +kernel
theorem dX12_go_44 : decode cX12_go 44 = .ok (.iconst 1, 1) := by decide +kernel
theorem dX12_go_45 : decode cX12_go 45 = .ok (.iadd, 1) := by decide +kernel
theorem dX12_go_46 : decode cX12_go 46 = .ok (.putfield 21, 3) := by decide +kernel
theorem dX12_go_49 : decode cX12_go 49 = .ok (.goto (-49), 3) := by decide +kernel
theorem dX12_go_52 : decode cX12_go 52 = .ok (.aload_n 0, 1) := by decide +kernel
theorem dX12_go_53 : decode cX12_go 53 = .ok (.aload_n 0, 1) := by decide +kernel
theorem dX12_go_54 : decode cX12_go 54 = .ok (.getfield 21, 3) := by decide +kernel
theorem dX12_go_57 : decode cX12_go 57 = .ok (.putfield 24, 3) := by decide +kernel
theorem dX12_go_60 : decode cX12_go 60 = .ok (.aload_n 0, 1) := by decide +kernel
theorem dX12_go_61 : decode cX12_go 61 = .ok (.getfield 18, 3) := by decide +kernel
theorem dX12_go_64 : decode cX12_go 64 = .ok (.aload_n 0, 1) := by decide +kernel
theorem dX12_go_65 : decode cX12_go 65 = .ok (.getfield 27, 3) := by decide +kernel
theorem dX12_go_68 : decode cX12_go 68 = .ok (.if_icmp .le 28, 3) := by decide +kernel
theorem dX12_go_71 : decode cX12_go 71 = .ok (.aload_n 0, 1) := by decide +kernel
theorem dX12_go_72 : decode cX12_go 72 = .ok (.getfield 24, 3) := by decide +kernel
theorem dX12_go_75 : decode cX12_go 75 = .ok (.aload_n 0, 1) := by decide +kernel
theorem dX12_go_76 : decode cX12_go 76 = .ok (.getfield 27, 3) := by decide +kernel
theorem dX12_go_79 : decode cX12_go 79 = .ok (.if_icmp .lt 17, 3) := by decide +kernel
theorem dX12_go_82 : decode cX12_go 82 = .ok (.aload_n 0, 1) := by decide +kernel
theorem dX12_go_83 : decode cX12_go 83 = .ok (.aload_n 0, 1) := by decide +kernel
theorem dX12_go_84 : decode cX12_go 84 = .ok (.getfield 27, 3) := by decide +kernel
theorem dX12_go_87 : decode cX12_go 87 = .ok (.putfield 24, 3) := by decide +kernel
theorem dX12_go_90 : decode cX12_go 90 = .ok (.aload_n 0, 1) := by decide +kernel
theorem dX12_go_91 : decode cX12_go 91 = .ok (.iconst 1, 1) := by decide +kernel
theorem dX12_go_92 : decode cX12_go 92 = .ok (.putfield 30, 3) := by decide +kernel
theorem dX12_go_95 : decode cX12_go 95 = .ok (.return_, 1) := by decide +kernel
theorem dX12_go_96 : decode cX12_go 96 = .ok (.aload_n 0, 1) := by decide +kernel
theorem dX12_go_97 : decode cX12_go 97 = .ok (.getfield 21, 3) := by decide +kernel
theorem dX12_go_100 : decode cX12_go 100 = .ok (.aload_n 0, 1) := by decide +kernel
theorem dX12_go_101 : decode cX12_go 101 = .ok (.getfield 18, 3) := by decide +kernel
theorem dX12_go_104 : decode cX12_go 104 = .ok (.if_icmp .lt 9, 3) := by decide +kernel
theorem dX12_go_107 : decode cX12_go 107 = .ok (.aload_n 0, 1) := by decide +kernel
theorem dX12_go_108 : decode cX12_go 108 = .ok (.iconst 0, 1) := by decide +kernel
theorem dX12_go_109 : decode cX12_go 109 = .ok (.putfield 30, 3) := by decide +kernel
theorem dX12_go_112 : decode cX12_go 112 = .ok (.return_, 1) := by decide +kernel
theorem dX12_go_113 : decode cX12_go 113 = .ok (.aload_n 0, 1) := by decide +kernel
theorem dX12_go_114 : decode cX12_go 114 = .ok (.getfield 7, 3) := by decide +kernel
theorem dX12_go_117 : decode cX12_go 117 = .ok (.aload_n 0, 1) := by decide +kernel
theorem dX12_go_118 : decode cX12_go 118 = .ok (.getfield 21, 3) := by decide +kernel
theorem dX12_go_121 : decode cX12_go 121 = .ok (.iaload, 1) := by decide +kernel
theorem dX12_go_122 : decode cX12_go 122 = .ok (.istore_n 1, 1) := by decide +kernel
theorem dX12_go_123 : decode cX12_go 123 = .ok (.iload_n 1, 1) := by decide +kernel
theorem dX12_go_124 : decode cX12_go 124 = .ok (.invokestatic 33, 3) := by decide +kernel
theorem dX12_go_127 : decode cX12_go 127 = .ok (.ifCond .ne 71, 3) := by decide +kernel
theorem dX12_go_130 : decode cX12_go 130 = .ok (.iload_n 1, 1) := by decide +kernel
theorem dX12_go_131 : decode cX12_go 131 = .ok (.invokestatic 37, 3) := by decide +kernel
theorem dX12_go_134 : decode cX12_go 134 = .ok (.ifCond .ne 64, 3) := by decide +kernel
theorem dX12_go_137 : decode cX12_go 137 = .ok (.aload_n 0, 1) := by decide +kernel
theorem dX12_go_138 : decode cX12_go 138 = .ok (.iload_n 1, 1) := by decide +kernel
theorem dX12_go_139 : decode cX12_go 139 = .ok (.bipush 59, 2) := by decide +kernel
theorem dX12_go_141 : decode cX12_go 141 = .ok (.if_icmp .eq 33, 3) := by decide +kernel
theorem dX12_go_144 : decode cX12_go 144 = .ok (.iload_n 1, 1) := by decide +kernel
theorem dX12_go_145 : decode cX12_go 145 = .ok (.bipush 60, 2) := by decide +kernel
theorem dX12_go_147 : decode cX12_go 147 = .ok (.if_icmp .eq 27, 3) := by decide +kernel
theorem dX12_go_150 : decode cX12_go 150 = .ok (.iload_n 1, 1) := by decide +kernel
theorem dX12_go_151 : decode cX12_go 151 = .ok (.bipush 61, 2) := by decide +kernel
theorem dX12_go_153 : decode cX12_go 153 = .ok (.if_icmp .eq 21, 3) := by decide +kernel
theorem dX12_go_156 : decode cX12_go 156 = .ok (.iload_n 1, 1) := by decide +kernel
theorem dX12_go_157 : decode cX12_go 157 = .ok (.bipush 62, 2) := by decide +kernel
theorem dX12_go_159 : decode cX12_go 159 = .ok (.if_icmp .eq 15, 3) := by decide +kernel
theorem dX12_go_162 : decode cX12_go 162 = .ok (.iload_n 1, 1) := by decide +kernel
theorem dX12_go_163 : decode cX12_go 163 = .ok (.bipush 40, 2) := by decide +kernel
theorem dX12_go_165 : decode cX12_go 165 = .ok (.if_icmp .eq 9, 3) := by decide +kernel
theorem dX12_go_168 : decode cX12_go 168 = .ok (.iload_n 1, 1) := by decide +kernel
theorem dX12_go_169 : decode cX12_go 169 = .ok (.bipush 41, 2) := by decide +kernel
theorem dX12_go_171 : decode cX12_go 171 = .ok (.if_icmp .ne 7, 3) := by decide +kernel
theorem dX12_go_174 : decode cX12_go 174 = .ok (.iconst 4, 1) := by decide +kernel
theorem dX12_go_175 : decode cX12_go 175 = .ok (.goto 4, 3) := by decide +kernel
theorem dX12_go_178 : decode cX12_go 178 = .ok (.iconst 1, 1) := by decide +kernel
theorem dX12_go_179 : decode cX12_go 179 = .ok (.putfield 30, 3) := by decide +kernel
theorem dX12_go_182 : decode cX12_go 182 = .ok (.aload_n 0, 1) := by decide +kernel
theorem dX12_go_183 : decode cX12_go 183 = .ok (.iload_n 1, 1) := by decide +kernel
theorem dX12_go_184 : decode cX12_go 184 = .ok (.putfield 40, 3) := by decide +kernel
theorem dX12_go_187 : decode cX12_go 187 = .ok (.aload_n 0, 1) := by decide +kernel
theorem dX12_go_188 : decode cX12_go 188 = .ok (.dup, 1) := by decide +kernel
theorem dX12_go_189 : decode cX12_go 189 = .ok (.getfield 21, 3) := by decide +kernel
theorem dX12_go_192 : decode cX12_go 192 = .ok (.iconst 1, 1) := by decide +kernel
theorem dX12_go_193 : decode cX12_go 193 = .ok (.iadd, 1) := by decide +kernel
theorem dX12_go_194 : decode cX12_go 194 = .ok (.putfield 21, 3) := by decide +kernel
theorem dX12_go_197 : decode cX12_go 197 = .ok (.return_, 1) := by decide +kernel
theorem dX12_go_198 : decode cX12_go 198 = .ok (.iload_n 1, 1) := by decide +kernel
theorem dX12_go_199 : decode cX12_go 199 = .ok (.invokestatic 33, 3) := by decide +kernel
theorem dX12_go_202 : decode cX12_go 202 = .ok (.istore_n 2, 1) := by decide +kernel
theorem dX12_go_203 : decode cX12_go 203 = .ok (.iconst 1, 1) := by decide +kernel
theorem dX12_go_204 : decode cX12_go 204 = .ok (.istore_n 3, 1) := by decide +kernel
theorem dX12_go_205 : decode cX12_go 205 = .ok (.aload_n 0, 1) := by decide +kernel
theorem dX12_go_206 : decode cX12_go 206 = .ok (.lconst 0, 1) := by decide +kernel
theorem dX12_go_207 : decode cX12_go 207 = .ok (.putfield 43, 3) := by decide +kernel
theorem dX12_go_210 : decode cX12_go 210 = .ok (.aload_n 0, 1) := by decide +kernel
theorem dX12_go_211 : decode cX12_go 211 = .ok (.iconst 0, 1) := by decide +kernel
theorem dX12_go_212 : decode cX12_go 212 = .ok (.putfield 47, 3) := by decide +kernel
theorem dX12_go_215 : decode cX12_go 215 = .ok (.aload_n 0, 1) := by decide +kernel
theorem dX12_go_216 : decode cX12_go 216 = .ok (.aload_n 0, 1) := by decide +kernel
theorem dX12_go_217 : decode cX12_go 217 = .ok (.getfield 21, 3) := by decide +kernel
theorem dX12_go_220 : decode cX12_go 220 = .ok (.invokevirtual 50, 3) := by decide +kernel
theorem dX12_go_223 : decode cX12_go 223 = .ok (.invokestatic 33, 3) := by decide +kernel
theorem dX12_go_226 : decode cX12_go 226 = .ok (.ifCond .ne 17, 3) := by decide +kernel
theorem dX12_go_229 : decode cX12_go 229 = .ok (.aload_n 0, 1) := by decide +kernel
theorem dX12_go_230 : decode cX12_go 230 = .ok (.aload_n 0, 1) := by decide +kernel
theorem dX12_go_231 : decode cX12_go 231 = .ok (.getfield 21, 3) := by decide +kernel
theorem dX12_go_234 : decode cX12_go 234 = .ok (.invokevirtual 50, 3) := by decide +kernel
theorem dX12_go_237 : decode cX12_go 237 = .ok (.invokestatic 37, 3) := by decide +kernel
theorem dX12_go_240 : decode cX12_go 240 = .ok (.ifCond .eq 110, 3) := by decide +kernel
theorem dX12_go_243 : decode cX12_go 243 = .ok (.aload_n 0, 1) := by decide +kernel
theorem dX12_go_244 : decode cX12_go 244 = .ok (.getfield 7, 3) := by decide +kernel
theorem dX12_go_247 : decode cX12_go 247 = .ok (.aload_n 0, 1) := by decide +kernel
theorem dX12_go_248 : decode cX12_go 248 = .ok (.getfield 21, 3) := by decide +kernel
theorem dX12_go_251 : decode cX12_go 251 = .ok (.iaload, 1) := by decide +kernel
theorem dX12_go_252 : decode cX12_go 252 = .ok (.istore 4, 2) := by decide +kernel
theorem dX12_go_254 : decode cX12_go 254 = .ok (.iload_n 3, 1) := by decide +kernel
theorem dX12_go_255 : decode cX12_go 255 = .ok (.ifCond .eq 16, 3) := by decide +kernel
theorem dX12_go_258 : decode cX12_go 258 = .ok (.iload 4, 2) := by decide +kernel
theorem dX12_go_260 : decode cX12_go 260 = .ok (.invokestatic 33, 3) := by decide +kernel
theorem dX12_go_263 : decode cX12_go 263 = .ok (.iload_n 2, 1) := by decide +kernel
theorem dX12_go_264 : decode cX12_go 264 = .ok (.if_icmp .ne 7, 3) := by decide +kernel
theorem dX12_go_267 : decode cX12_go 267 = .ok (.iconst 1, 1) := by decide +kernel
theorem dX12_go_268 : decode cX12_go 268 = .ok (.goto 4, 3) := by decide +kernel
theorem dX12_go_271 : decode cX12_go 271 = .ok (.iconst 0, 1) := by decide +kernel
theorem dX12_go_272 : decode cX12_go 272 = .ok (.istore_n 3, 1) := by decide +kernel
theorem dX12_go_273 : decode cX12_go 273 = .ok (.aload_n 0, 1) := by decide +kernel
theorem dX12_go_274 : decode cX12_go 274 = .ok (.getfield 21, 3) := by decide +kernel
theorem dX12_go_277 : decode cX12_go 277 = .ok (.aload_n 0, 1) := by decide +kernel
theorem dX12_go_278 : decode cX12_go 278 = .ok (.getfield 24, 3) := by decide +kernel
theorem dX12_go_281 : decode cX12_go 281 = .ok (.isub, 1) := by decide +kernel
theorem dX12_go_282 : decode cX12_go 282 = .ok (.bipush 7, 2) := by decide +kernel
theorem dX12_go_284 : decode cX12_go 284 = .ok (.if_icmp .ge 23, 3) := by decide +kernel
theorem dX12_go_287 : decode cX12_go 287 = .ok (.aload_n 0, 1) := by decide +kernel
theorem dX12_go_288 : decode cX12_go 288 = .ok (.ldc2_w 54, 3) := by decide +kernel
theorem dX12_go_291 : decode cX12_go 291 = .ok (.aload_n 0, 1) := by decide +kernel
theorem dX12_go_292 : decode cX12_go 292 = .ok (.getfield 43, 3) := by decide +kernel
theorem dX12_go_295 : decode cX12_go 295 = .ok (.lmul, 1) := by decide +kernel
theorem dX12_go_296 : decode cX12_go 296 = .ok (.iload 4, 2) := by decide +kernel
theorem dX12_go_298 : decode cX12_go 298 = .ok (.i2l, 1) := by decide +kernel
theorem dX12_go_299 : decode cX12_go 299 = .ok (.ladd, 1) := by decide +kernel
theorem dX12_go_300 : decode cX12_go 300 = .ok (.ldc2_w 56, 3) := by decide +kernel
theorem dX12_go_303 : decode cX12_go 303 = .ok (.lsub, 1) := by decide +kernel
theorem dX12_go_304 : decode cX12_go 304 = .ok (.putfield 43, 3) := by decide +kernel
theorem dX12_go_307 : decode cX12_go 307 = .ok (.aload_n 0, 1) := by decide +kernel
theorem dX12_go_308 : decode cX12_go 308 = .ok (.getfield 21, 3) := by decide +kernel
theorem dX12_go_311 : decode cX12_go 311 = .ok (.aload_n 0, 1) := by decide +kernel
theorem dX12_go_312 : decode cX12_go 312 = .ok (.getfield 24, 3) := by decide +kernel
theorem dX12_go_315 : decode cX12_go 315 = .ok (.isub, 1) := by decide +kernel
theorem dX12_go_316 : decode cX12_go 316 = .ok (.iconst 3, 1) := by decide +kernel
theorem dX12_go_317 : decode cX12_go 317 = .ok (.if_icmp .ge 20, 3) := by decide +kernel
theorem dX12_go_320 : decode cX12_go 320 = .ok (.aload_n 0, 1) := by decide +kernel
theorem dX12_go_321 : decode cX12_go 321 = .ok (.bipush 10, 2) := by decide +kernel
theorem dX12_go_323 : decode cX12_go 323 = .ok (.aload_n 0, 1) := by decide +kernel
theorem dX12_go_324 : decode cX12_go 324 = .ok (.getfield 47, 3) := by decide +kernel
theorem dX12_go_327 : decode cX12_go 327 = .ok (.imul, 1) := by decide +kernel
theorem dX12_go_328 : decode cX12_go 328 = .ok (.iload 4, 2) := by decide +kernel
theorem dX12_go_330 : decode cX12_go 330 = .ok (.iadd, 1) := by decide +kernel
theorem dX12_go_331 : decode cX12_go 331 = .ok (.bipush 48, 2) := by decide +kernel
theorem dX12_go_333 : decode cX12_go 333 = .ok (.isub, 1) := by decide +kernel
theorem dX12_go_334 : decode cX12_go 334 = .ok (.putfield 47, 3) := by decide +kernel
theorem dX12_go_337 : decode cX12_go 337 = .ok (.aload_n 0, 1) := by decide +kernel
theorem dX12_go_338 : decode cX12_go 338 = .ok (.dup, 1) := by decide +kernel
theorem dX12_go_339 : decode cX12_go 339 = .ok (.getfield 21, 3) := by decide +kernel
theorem dX12_go_342 : decode cX12_go 342 = .ok (.iconst 1, 1) := by decide +kernel
theorem dX12_go_343 : decode cX12_go 343 = .ok (.iadd, 1) := by decide +kernel
theorem dX12_go_344 : decode cX12_go 344 = .ok (.putfield 21, 3) := by decide +kernel
theorem dX12_go_347 : decode cX12_go 347 = .ok (.goto (-132), 3) := by decide +kernel
theorem dX12_go_350 : decode cX12_go 350 = .ok (.aload_n 0, 1) := by decide +kernel
theorem dX12_go_351 : decode cX12_go 351 = .ok (.iload_n 3, 1) := by decide +kernel
theorem dX12_go_352 : decode cX12_go 352 = .ok (.ifCond .eq 25, 3) := by decide +kernel
theorem dX12_go_355 : decode cX12_go 355 = .ok (.aload_n 0, 1) := by decide +kernel
theorem dX12_go_356 : decode cX12_go 356 = .ok (.getfield 21, 3) := by decide +kernel
theorem dX12_go_359 : decode cX12_go 359 = .ok (.aload_n 0, 1) := by decide +kernel
theorem dX12_go_360 : decode cX12_go 360 = .ok (.getfield 24, 3) := by decide +kernel
theorem dX12_go_363 : decode cX12_go 363 = .ok (.isub, 1) := by decide +kernel
theorem dX12_go_364 : decode cX12_go 364 = .ok (.iload_n 2, 1) := by decide +kernel
theorem dX12_go_365 : decode cX12_go 365 = .ok (.ifCond .eq 8, 3) := by decide +kernel
theorem dX12_go_368 : decode cX12_go 368 = .ok (.bipush 7, 2) := by decide +kernel
theorem dX12_go_370 : decode cX12_go 370 = .ok (.goto 4, 3) := by decide +kernel
theorem dX12_go_373 : decode cX12_go 373 = .ok (.iconst 3, 1) := by decide +kernel
theorem dX12_go_374 : decode cX12_go 374 = .ok (.if_icmp .le 7, 3) := by decide +kernel
theorem dX12_go_377 : decode cX12_go 377 = .ok (.iconst 1, 1) := by decide +kernel
theorem dX12_go_378 : decode cX12_go 378 = .ok (.goto 12, 3) := by decide +kernel
theorem dX12_go_381 : decode cX12_go 381 = .ok (.iload_n 2, 1) := by decide +kernel
theorem dX12_go_382 : decode cX12_go 382 = .ok (.ifCond .eq 7, 3) := by decide +kernel
theorem dX12_go_385 : decode cX12_go 385 = .ok (.iconst 2, 1) := by decide +kernel
theorem dX12_go_386 : decode cX12_go 386 = .ok (.goto 4, 3) := by decide +kernel
theorem dX12_go_389 : decode cX12_go 389 = .ok (.iconst 3, 1) := by decide +kernel
theorem dX12_go_390 : decode cX12_go 390 = .ok (.putfield 30, 3) := by decide +kernel
theorem dX12_go_393 : decode cX12_go 393 = .ok (.return_, 1) := by decide +kernel
theorem dX12_spelt_0 : decode cX12_spelt 0 = .ok (.ldc2_w 54, 3) := by decide +kernel
theorem dX12_spelt_3 : decode cX12_spelt 3 = .ok (.iload_n 0, 1) := by decide +kernel
theorem dX12_spelt_4 : decode cX12_spelt 4 = .ok (.i2l, 1) := by decide +kernel
theorem dX12_spelt_5 : decode cX12_spelt 5 = .ok (.ldc2_w 56, 3) := by decide +kernel
theorem dX12_spelt_8 : decode cX12_spelt 8 = .ok (.lsub, 1) := by decide +kernel
theorem dX12_spelt_9 : decode cX12_spelt 9 = .ok (.lmul, 1) := by decide +kernel
theorem dX12_spelt_10 : decode cX12_spelt 10 = .ok (.iload_n 1, 1) := by decide +kernel
theorem dX12_spelt_11 : decode cX12_spelt 11 = .ok (.i2l, 1) := by decide +kernel
theorem dX12_spelt_12 : decode cX12_spelt 12 = .ok (.ladd, 1) := by decide +kernel
theorem dX12_spelt_13 : decode cX12_spelt 13 = .ok (.ldc2_w 56, 3) := by decide +kernel
theorem dX12_spelt_16 : decode cX12_spelt 16 = .ok (.lsub, 1) := by decide +kernel
theorem dX12_spelt_17 : decode cX12_spelt 17 = .ok (.lstore 6, 2) := by decide +kernel
theorem dX12_spelt_19 : decode cX12_spelt 19 = .ok (.iload_n 2, 1) := by decide +kernel
theorem dX12_spelt_20 : decode cX12_spelt 20 = .ok (.ifCond .le 18, 3) := by decide +kernel
theorem dX12_spelt_23 : decode cX12_spelt 23 = .ok (.ldc2_w 54, 3) := by decide +kernel
theorem dX12_spelt_26 : decode cX12_spelt 26 = .ok (.lload 6, 2) := by decide +kernel
theorem dX12_spelt_28 : decode cX12_spelt 28 = .ok (.lmul, 1) := by decide +kernel
theorem dX12_spelt_29 : decode cX12_spelt 29 = .ok (.iload_n 2, 1) := by decide +kernel
theorem dX12_spelt_30 : decode cX12_spelt 30 = .ok (.i2l, 1) := by decide +kernel
theorem dX12_spelt_31 : decode cX12_spelt 31 = .ok (.ladd, 1) := by decide +kernel
theorem dX12_spelt_32 : decode cX12_spelt 32 = .ok (.ldc2_w 56, 3) := by decide +kernel
theorem dX12_spelt_35 : decode cX12_spelt 35 = .ok (.lsub, 1) := by decide +kernel
theorem dX12_spelt_36 : decode cX12_spelt 36 = .ok (.lstore 6, 2) := by decide +kernel
theorem dX12_spelt_38 : decode cX12_spelt 38 = .ok (.iload_n 3, 1) := by decide +kernel
theorem dX12_spelt_39 : decode cX12_spelt 39 = .ok (.ifCond .le 18, 3) := by decide +kernel
theorem dX12_spelt_42 : decode cX12_spelt 42 = .ok (.ldc2_w 54, 3) := by decide +kernel
theorem dX12_spelt_45 : decode cX12_spelt 45 = .ok (.lload 6, 2) := by decide +kernel
theorem dX12_spelt_47 : decode cX12_spelt 47 = .ok (.lmul, 1) := by decide +kernel
theorem dX12_spelt_48 : decode cX12_spelt 48 = .ok (.iload_n 3, 1) := by decide +kernel
theorem dX12_spelt_49 : decode cX12_spelt 49 = .ok (.i2l, 1) := by decide +kernel
theorem dX12_spelt_50 : decode cX12_spelt 50 = .ok (.ladd, 1) := by decide +kernel
theorem dX12_spelt_51 : decode cX12_spelt 51 = .ok (.ldc2_w 56, 3) := by decide +kernel
theorem dX12_spelt_54 : decode cX12_spelt 54 = .ok (.lsub, 1) := by decide +kernel
theorem dX12_spelt_55 : decode cX12_spelt 55 = .ok (.lstore 6, 2) := by decide +kernel
theorem dX12_spelt_57 : decode cX12_spelt 57 = .ok (.iload 4, 2) := by decide +kernel
theorem dX12_spelt_59 : decode cX12_spelt 59 = .ok (.ifCond .le 19, 3) := by decide +kernel
theorem dX12_spelt_62 : decode cX12_spelt 62 = .ok (.ldc2_w 54, 3) := by decide +kernel
theorem dX12_spelt_65 : decode cX12_spelt 65 = .ok (.lload 6, 2) := by decide +kernel
theorem dX12_spelt_67 : decode cX12_spelt 67 = .ok (.lmul, 1) := by decide +kernel
theorem dX12_spelt_68 : decode cX12_spelt 68 = .ok (.iload 4, 2) := by decide +kernel
theorem dX12_spelt_70 : decode cX12_spelt 70 = .ok (.i2l, 1) := by decide +kernel
theorem dX12_spelt_71 : decode cX12_spelt 71 = .ok (.ladd, 1) := by decide +kernel
theorem dX12_spelt_72 : decode cX12_spelt 72 = .ok (.ldc2_w 56, 3) := by decide +kernel
theorem dX12_spelt_75 : decode cX12_spelt 75 = .ok (.lsub, 1) := by decide +kernel
theorem dX12_spelt_76 : decode cX12_spelt 76 = .ok (.lstore 6, 2) := by decide +kernel
theorem dX12_spelt_78 : decode cX12_spelt 78 = .ok (.iload 5, 2) := by decide +kernel
theorem dX12_spelt_80 : decode cX12_spelt 80 = .ok (.ifCond .le 19, 3) := by decide +kernel
theorem dX12_spelt_83 : decode cX12_spelt 83 = .ok (.ldc2_w 54, 3) := by decide +kernel
theorem dX12_spelt_86 : decode cX12_spelt 86 = .ok (.lload 6, 2) := by decide +kernel
theorem dX12_spelt_88 : decode cX12_spelt 88 = .ok (.lmul, 1) := by decide +kernel
theorem dX12_spelt_89 : decode cX12_spelt 89 = .ok (.iload 5, 2) := by decide +kernel
theorem dX12_spelt_91 : decode cX12_spelt 91 = .ok (.i2l, 1) := by decide +kernel
theorem dX12_spelt_92 : decode cX12_spelt 92 = .ok (.ladd, 1) := by decide +kernel
theorem dX12_spelt_93 : decode cX12_spelt 93 = .ok (.ldc2_w 56, 3) := by decide +kernel
theorem dX12_spelt_96 : decode cX12_spelt 96 = .ok (.lsub, 1) := by decide +kernel
theorem dX12_spelt_97 : decode cX12_spelt 97 = .ok (.lstore 6, 2) := by decide +kernel
theorem dX12_spelt_99 : decode cX12_spelt 99 = .ok (.lload 6, 2) := by decide +kernel
theorem dX12_spelt_101 : decode cX12_spelt 101 = .ok (.lreturn, 1) := by decide +kernel
theorem dX12_wordOf_0 : decode cX12_wordOf 0 = .ok (.iload_n 0, 1) := by decide +kernel
theorem dX12_wordOf_1 : decode cX12_wordOf 1 = .ok (.tableswitch 426 0 22 #[107, 121, 135, 149, 163, 177, 192, 205, 219, 232, 245, 259, 273, 286, 300, 312, 325, 338, 352, 366, 380, 395, 411], 107) := by decide +kernel
theorem dX12_wordOf_108 : decode cX12_wordOf 108 = .ok (.bipush 98, 2) := by decide +kernel
theorem dX12_wordOf_110 : decode cX12_wordOf 110 = .ok (.bipush 105, 2) := by decide +kernel
theorem dX12_wordOf_112 : decode cX12_wordOf 112 = .ok (.bipush 116, 2) := by decide +kernel
theorem dX12_wordOf_114 : decode cX12_wordOf 114 = .ok (.bipush 115, 2) := by decide +kernel
theorem dX12_wordOf_116 : decode cX12_wordOf 116 = .ok (.iconst 0, 1) := by decide +kernel
theorem dX12_wordOf_117 : decode cX12_wordOf 117 = .ok (.iconst 0, 1) := by decide +kernel
theorem dX12_wordOf_118 : decode cX12_wordOf 118 = .ok (.invokestatic 58, 3) := by decide +kernel
theorem dX12_wordOf_121 : decode cX12_wordOf 121 = .ok (.lreturn, 1) := by decide +kernel
theorem dX12_wordOf_122 : decode cX12_wordOf 122 = .ok (.bipush 112, 2) := by decide +kernel
theorem dX12_wordOf_124 : decode cX12_wordOf 124 = .ok (.bipush 97, 2) := by decide +kernel
theorem dX12_wordOf_126 : decode cX12_wordOf 126 = .ok (.bipush 103, 2) := by decide +kernel
theorem dX12_wordOf_128 : decode cX12_wordOf 128 = .ok (.bipush 101, 2) := by decide +kernel
theorem dX12_wordOf_130 : decode cX12_wordOf 130 = .ok (.iconst 0, 1) := by decide +kernel
theorem dX12_wordOf_131 : decode cX12_wordOf 131 = .ok (.iconst 0, 1) := by decide +kernel
theorem dX12_wordOf_132 : decode cX12_wordOf 132 = .ok (.invokestatic 58, 3) := by decide +kernel
theorem dX12_wordOf_135 : decode cX12_wordOf 135 = .ok (.lreturn, 1) := by decide +kernel
theorem dX12_wordOf_136 : decode cX12_wordOf 136 = .ok (.bipush 114, 2) := by decide +kernel
theorem dX12_wordOf_138 : decode cX12_wordOf 138 = .ok (.bipush 117, 2) := by decide +kernel
theorem dX12_wordOf_140 : decode cX12_wordOf 140 = .ok (.bipush 108, 2) := by decide +kernel
theorem dX12_wordOf_142 : decode cX12_wordOf 142 = .ok (.bipush 101, 2) := by decide +kernel
theorem dX12_wordOf_144 : decode cX12_wordOf 144 = .ok (.iconst 0, 1) := by decide +kernel
theorem dX12_wordOf_145 : decode cX12_wordOf 145 = .ok (.iconst 0, 1) := by decide +kernel
theorem dX12_wordOf_146 : decode cX12_wordOf 146 = .ok (.invokestatic 58, 3) := by decide +kernel
theorem dX12_wordOf_149 : decode cX12_wordOf 149 = .ok (.lreturn, 1) := by decide +kernel
theorem dX12_wordOf_150 : decode cX12_wordOf 150 = .ok (.bipush 108, 2) := by decide +kernel
theorem dX12_wordOf_152 : decode cX12_wordOf 152 = .ok (.bipush 97, 2) := by decide +kernel
theorem dX12_wordOf_154 : decode cX12_wordOf 154 = .ok (.bipush 116, 2) := by decide +kernel
theorem dX12_wordOf_156 : decode cX12_wordOf 156 = .ok (.bipush 101, 2) := by decide +kernel
theorem dX12_wordOf_158 : decode cX12_wordOf 158 = .ok (.iconst 0, 1) := by decide +kernel
theorem dX12_wordOf_159 : decode cX12_wordOf 159 = .ok (.iconst 0, 1) := by decide +kernel
theorem dX12_wordOf_160 : decode cX12_wordOf 160 = .ok (.invokestatic 58, 3) := by decide +kernel
theorem dX12_wordOf_163 : decode cX12_wordOf 163 = .ok (.lreturn, 1) := by decide +kernel
theorem dX12_wordOf_164 : decode cX12_wordOf 164 = .ok (.bipush 109, 2) := by decide +kernel
theorem dX12_wordOf_166 : decode cX12_wordOf 166 = .ok (.bipush 111, 2) := by decide +kernel
theorem dX12_wordOf_168 : decode cX12_wordOf 168 = .ok (.bipush 115, 2) := by decide +kernel
theorem dX12_wordOf_170 : decode cX12_wordOf 170 = .ok (.bipush 116, 2) := by decide +kernel
theorem dX12_wordOf_172 : decode cX12_wordOf 172 = .ok (.iconst 0, 1) := by decide +kernel
theorem dX12_wordOf_173 : decode cX12_wordOf 173 = .ok (.iconst 0, 1) := by decide +kernel
theorem dX12_wordOf_174 : decode cX12_wordOf 174 = .ok (.invokestatic 58, 3) := by decide +kernel
theorem dX12_wordOf_177 : decode cX12_wordOf 177 = .ok (.lreturn, 1) := by decide +kernel
theorem dX12_wordOf_178 : decode cX12_wordOf 178 = .ok (.bipush 108, 2) := by decide +kernel
theorem dX12_wordOf_180 : decode cX12_wordOf 180 = .ok (.bipush 101, 2) := by decide +kernel
theorem dX12_wordOf_182 : decode cX12_wordOf 182 = .ok (.bipush 97, 2) := by decide +kernel
theorem dX12_wordOf_184 : decode cX12_wordOf 184 = .ok (.bipush 115, 2) := by decide +kernel
theorem dX12_wordOf_186 : decode cX12_wordOf 186 = .ok (.bipush 116, 2) := by decide +kernel
theorem dX12_wordOf_188 : decode cX12_wordOf 188 = .ok (.iconst 0, 1) := by decide +kernel
theorem dX12_wordOf_189 : decode cX12_wordOf 189 = .ok (.invokestatic 58, 3) := by decide +kernel
theorem dX12_wordOf_192 : decode cX12_wordOf 192 = .ok (.lreturn, 1) := by decide +kernel
theorem dX12_wordOf_193 : decode cX12_wordOf 193 = .ok (.bipush 107, 2) := by decide +kernel
theorem dX12_wordOf_195 : decode cX12_wordOf 195 = .ok (.bipush 101, 2) := by decide +kernel
theorem dX12_wordOf_197 : decode cX12_wordOf 197 = .ok (.bipush 121, 2) := by decide +kernel
theorem dX12_wordOf_199 : decode cX12_wordOf 199 = .ok (.iconst 0, 1) := by decide +kernel
theorem dX12_wordOf_200 : decode cX12_wordOf 200 = .ok (.iconst 0, 1) := by decide +kernel
theorem dX12_wordOf_201 : decode cX12_wordOf 201 = .ok (.iconst 0, 1) := by decide +kernel
theorem dX12_wordOf_202 : decode cX12_wordOf 202 = .ok (.invokestatic 58, 3) := by decide +kernel
theorem dX12_wordOf_205 : decode cX12_wordOf 205 = .ok (.lreturn, 1) := by decide +kernel
theorem dX12_wordOf_206 : decode cX12_wordOf 206 = .ok (.bipush 112, 2) := by decide +kernel
theorem dX12_wordOf_208 : decode cX12_wordOf 208 = .ok (.bipush 101, 2) := by decide +kernel
theorem dX12_wordOf_210 : decode cX12_wordOf 210 = .ok (.bipush 101, 2) := by decide +kernel
theorem dX12_wordOf_212 : decode cX12_wordOf 212 = .ok (.bipush 114, 2) := by decide +kernel
theorem dX12_wordOf_214 : decode cX12_wordOf 214 = .ok (.iconst 0, 1) := by decide +kernel
theorem dX12_wordOf_215 : decode cX12_wordOf 215 = .ok (.iconst 0, 1) := by decide +kernel
theorem dX12_wordOf_216 : decode cX12_wordOf 216 = .ok (.invokestatic 58, 3) := by decide +kernel
theorem dX12_wordOf_219 : decode cX12_wordOf 219 = .ok (.lreturn, 1) := by decide +kernel
theorem dX12_wordOf_220 : decode cX12_wordOf 220 = .ok (.bipush 104, 2) := by decide +kernel
theorem dX12_wordOf_222 : decode cX12_wordOf 222 = .ok (.bipush 97, 2) := by decide +kernel
theorem dX12_wordOf_224 : decode cX12_wordOf 224 = .ok (.bipush 115, 2) := by decide +kernel
theorem dX12_wordOf_226 : decode cX12_wordOf 226 = .ok (.iconst 0, 1) := by decide +kernel
theorem dX12_wordOf_227 : decode cX12_wordOf 227 = .ok (.iconst 0, 1) := by decide +kernel
theorem dX12_wordOf_228 : decode cX12_wordOf 228 = .ok (.iconst 0, 1) := by decide +kernel
theorem dX12_wordOf_229 : decode cX12_wordOf 229 = .ok (.invokestatic 58, 3) := by decide +kernel
theorem dX12_wordOf_232 : decode cX12_wordOf 232 = .ok (.lreturn, 1) := by decide +kernel
theorem dX12_wordOf_233 : decode cX12_wordOf 233 = .ok (.bipush 112, 2) := by decide +kernel
theorem dX12_wordOf_235 : decode cX12_wordOf 235 = .ok (.bipush 117, 2) := by decide +kernel
theorem dX12_wordOf_237 : decode cX12_wordOf 237 = .ok (.bipush 116, 2) := by decide +kernel
theorem dX12_wordOf_239 : decode cX12_wordOf 239 = .ok (.iconst 0, 1) := by decide +kernel
theorem dX12_wordOf_240 : decode cX12_wordOf 240 = .ok (.iconst 0, 1) := by decide +kernel
theorem dX12_wordOf_241 : decode cX12_wordOf 241 = .ok (.iconst 0, 1) := by decide +kernel
theorem dX12_wordOf_242 : decode cX12_wordOf 242 = .ok (.invokestatic 58, 3) := by decide +kernel
theorem dX12_wordOf_245 : decode cX12_wordOf 245 = .ok (.lreturn, 1) := by decide +kernel
theorem dX12_wordOf_246 : decode cX12_wordOf 246 = .ok (.bipush 100, 2) := by decide +kernel
theorem dX12_wordOf_248 : decode cX12_wordOf 248 = .ok (.bipush 114, 2) := by decide +kernel
theorem dX12_wordOf_250 : decode cX12_wordOf 250 = .ok (.bipush 111, 2) := by decide +kernel
theorem dX12_wordOf_252 : decode cX12_wordOf 252 = .ok (.bipush 112, 2) := by decide +kernel
theorem dX12_wordOf_254 : decode cX12_wordOf 254 = .ok (.iconst 0, 1) := by decide +kernel
theorem dX12_wordOf_255 : decode cX12_wordOf 255 = .ok (.iconst 0, 1) := by decide +kernel
theorem dX12_wordOf_256 : decode cX12_wordOf 256 = .ok (.invokestatic 58, 3) := by decide +kernel
theorem dX12_wordOf_259 : decode cX12_wordOf 259 = .ok (.lreturn, 1) := by decide +kernel
theorem dX12_wordOf_260 : decode cX12_wordOf 260 = .ok (.bipush 112, 2) := by decide +kernel
theorem dX12_wordOf_262 : decode cX12_wordOf 262 = .ok (.bipush 117, 2) := by decide +kernel
theorem dX12_wordOf_264 : decode cX12_wordOf 264 = .ok (.bipush 108, 2) := by decide +kernel
theorem dX12_wordOf_266 : decode cX12_wordOf 266 = .ok (.bipush 108, 2) := by decide +kernel
theorem dX12_wordOf_268 : decode cX12_wordOf 268 = .ok (.iconst 0, 1) := by decide +kernel
theorem dX12_wordOf_269 : decode cX12_wordOf 269 = .ok (.iconst 0, 1) := by decide +kernel
theorem dX12_wordOf_270 : decode cX12_wordOf 270 = .ok (.invokestatic 58, 3) := by decide +kernel
theorem dX12_wordOf_273 : decode cX12_wordOf 273 = .ok (.lreturn, 1) := by decide +kernel
theorem dX12_wordOf_274 : decode cX12_wordOf 274 = .ok (.bipush 99, 2) := by decide +kernel
theorem dX12_wordOf_276 : decode cX12_wordOf 276 = .ok (.bipush 117, 2) := by decide +kernel
theorem dX12_wordOf_278 : decode cX12_wordOf 278 = .ok (.bipush 116, 2) := by decide +kernel
theorem dX12_wordOf_280 : decode cX12_wordOf 280 = .ok (.iconst 0, 1) := by decide +kernel
theorem dX12_wordOf_281 : decode cX12_wordOf 281 = .ok (.iconst 0, 1) := by decide +kernel
theorem dX12_wordOf_282 : decode cX12_wordOf 282 = .ok (.iconst 0, 1) := by decide +kernel
theorem dX12_wordOf_283 : decode cX12_wordOf 283 = .ok (.invokestatic 58, 3) := by decide +kernel
theorem dX12_wordOf_286 : decode cX12_wordOf 286 = .ok (.lreturn, 1) := by decide +kernel
theorem dX12_wordOf_287 : decode cX12_wordOf 287 = .ok (.bipush 104, 2) := by decide +kernel
theorem dX12_wordOf_289 : decode cX12_wordOf 289 = .ok (.bipush 101, 2) := by decide +kernel
theorem dX12_wordOf_291 : decode cX12_wordOf 291 = .ok (.bipush 97, 2) := by decide +kernel
theorem dX12_wordOf_293 : decode cX12_wordOf 293 = .ok (.bipush 108, 2) := by decide +kernel
theorem dX12_wordOf_295 : decode cX12_wordOf 295 = .ok (.iconst 0, 1) := by decide +kernel
theorem dX12_wordOf_296 : decode cX12_wordOf 296 = .ok (.iconst 0, 1) := by decide +kernel
theorem dX12_wordOf_297 : decode cX12_wordOf 297 = .ok (.invokestatic 58, 3) := by decide +kernel
theorem dX12_wordOf_300 : decode cX12_wordOf 300 = .ok (.lreturn, 1) := by decide +kernel
theorem dX12_wordOf_301 : decode cX12_wordOf 301 = .ok (.bipush 111, 2) := by decide +kernel
theorem dX12_wordOf_303 : decode cX12_wordOf 303 = .ok (.bipush 114, 2) := by decide +kernel
theorem dX12_wordOf_305 : decode cX12_wordOf 305 = .ok (.iconst 0, 1) := by decide +kernel
theorem dX12_wordOf_306 : decode cX12_wordOf 306 = .ok (.iconst 0, 1) := by decide +kernel
theorem dX12_wordOf_307 : decode cX12_wordOf 307 = .ok (.iconst 0, 1) := by decide +kernel
theorem dX12_wordOf_308 : decode cX12_wordOf 308 = .ok (.iconst 0, 1) := by decide +kernel
theorem dX12_wordOf_309 : decode cX12_wordOf 309 = .ok (.invokestatic 58, 3) := by decide +kernel
theorem dX12_wordOf_312 : decode cX12_wordOf 312 = .ok (.lreturn, 1) := by decide +kernel
theorem dX12_wordOf_313 : decode cX12_wordOf 313 = .ok (.bipush 97, 2) := by decide +kernel
theorem dX12_wordOf_315 : decode cX12_wordOf 315 = .ok (.bipush 110, 2) := by decide +kernel
theorem dX12_wordOf_317 : decode cX12_wordOf 317 = .ok (.bipush 100, 2) := by decide +kernel
theorem dX12_wordOf_319 : decode cX12_wordOf 319 = .ok (.iconst 0, 1) := by decide +kernel
theorem dX12_wordOf_320 : decode cX12_wordOf 320 = .ok (.iconst 0, 1) := by decide +kernel
theorem dX12_wordOf_321 : decode cX12_wordOf 321 = .ok (.iconst 0, 1) := by decide +kernel
theorem dX12_wordOf_322 : decode cX12_wordOf 322 = .ok (.invokestatic 58, 3) := by decide +kernel
theorem dX12_wordOf_325 : decode cX12_wordOf 325 = .ok (.lreturn, 1) := by decide +kernel
theorem dX12_wordOf_326 : decode cX12_wordOf 326 = .ok (.bipush 110, 2) := by decide +kernel
theorem dX12_wordOf_328 : decode cX12_wordOf 328 = .ok (.bipush 111, 2) := by decide +kernel
theorem dX12_wordOf_330 : decode cX12_wordOf 330 = .ok (.bipush 116, 2) := by decide +kernel
theorem dX12_wordOf_332 : decode cX12_wordOf 332 = .ok (.iconst 0, 1) := by decide +kernel
theorem dX12_wordOf_333 : decode cX12_wordOf 333 = .ok (.iconst 0, 1) := by decide +kernel
theorem dX12_wordOf_334 : decode cX12_wordOf 334 = .ok (.iconst 0, 1) := by decide +kernel
theorem dX12_wordOf_335 : decode cX12_wordOf 335 = .ok (.invokestatic 58, 3) := by decide +kernel
theorem dX12_wordOf_338 : decode cX12_wordOf 338 = .ok (.lreturn, 1) := by decide +kernel
theorem dX12_wordOf_339 : decode cX12_wordOf 339 = .ok (.bipush 116, 2) := by decide +kernel
theorem dX12_wordOf_341 : decode cX12_wordOf 341 = .ok (.bipush 111, 2) := by decide +kernel
theorem dX12_wordOf_343 : decode cX12_wordOf 343 = .ok (.bipush 114, 2) := by decide +kernel
theorem dX12_wordOf_345 : decode cX12_wordOf 345 = .ok (.bipush 110, 2) := by decide +kernel
theorem dX12_wordOf_347 : decode cX12_wordOf 347 = .ok (.iconst 0, 1) := by decide +kernel
theorem dX12_wordOf_348 : decode cX12_wordOf 348 = .ok (.iconst 0, 1) := by decide +kernel
theorem dX12_wordOf_349 : decode cX12_wordOf 349 = .ok (.invokestatic 58, 3) := by decide +kernel
theorem dX12_wordOf_352 : decode cX12_wordOf 352 = .ok (.lreturn, 1) := by decide +kernel
theorem dX12_wordOf_353 : decode cX12_wordOf 353 = .ok (.bipush 104, 2) := by decide +kernel
theorem dX12_wordOf_355 : decode cX12_wordOf 355 = .ok (.bipush 101, 2) := by decide +kernel
theorem dX12_wordOf_357 : decode cX12_wordOf 357 = .ok (.bipush 108, 2) := by decide +kernel
theorem dX12_wordOf_359 : decode cX12_wordOf 359 = .ok (.bipush 100, 2) := by decide +kernel
theorem dX12_wordOf_361 : decode cX12_wordOf 361 = .ok (.iconst 0, 1) := by decide +kernel
theorem dX12_wordOf_362 : decode cX12_wordOf 362 = .ok (.iconst 0, 1) := by decide +kernel
theorem dX12_wordOf_363 : decode cX12_wordOf 363 = .ok (.invokestatic 58, 3) := by decide +kernel
theorem dX12_wordOf_366 : decode cX12_wordOf 366 = .ok (.lreturn, 1) := by decide +kernel
theorem dX12_wordOf_367 : decode cX12_wordOf 367 = .ok (.bipush 103, 2) := by decide +kernel
theorem dX12_wordOf_369 : decode cX12_wordOf 369 = .ok (.bipush 111, 2) := by decide +kernel
theorem dX12_wordOf_371 : decode cX12_wordOf 371 = .ok (.bipush 110, 2) := by decide +kernel
theorem dX12_wordOf_373 : decode cX12_wordOf 373 = .ok (.bipush 101, 2) := by decide +kernel
theorem dX12_wordOf_375 : decode cX12_wordOf 375 = .ok (.iconst 0, 1) := by decide +kernel
theorem dX12_wordOf_376 : decode cX12_wordOf 376 = .ok (.iconst 0, 1) := by decide +kernel
theorem dX12_wordOf_377 : decode cX12_wordOf 377 = .ok (.invokestatic 58, 3) := by decide +kernel
theorem dX12_wordOf_380 : decode cX12_wordOf 380 = .ok (.lreturn, 1) := by decide +kernel
theorem dX12_wordOf_381 : decode cX12_wordOf 381 = .ok (.bipush 108, 2) := by decide +kernel
theorem dX12_wordOf_383 : decode cX12_wordOf 383 = .ok (.bipush 101, 2) := by decide +kernel
theorem dX12_wordOf_385 : decode cX12_wordOf 385 = .ok (.bipush 118, 2) := by decide +kernel
theorem dX12_wordOf_387 : decode cX12_wordOf 387 = .ok (.bipush 101, 2) := by decide +kernel
theorem dX12_wordOf_389 : decode cX12_wordOf 389 = .ok (.bipush 108, 2) := by decide +kernel
theorem dX12_wordOf_391 : decode cX12_wordOf 391 = .ok (.iconst 0, 1) := by decide +kernel
theorem dX12_wordOf_392 : decode cX12_wordOf 392 = .ok (.invokestatic 58, 3) := by decide +kernel
theorem dX12_wordOf_395 : decode cX12_wordOf 395 = .ok (.lreturn, 1) := by decide +kernel
theorem dX12_wordOf_396 : decode cX12_wordOf 396 = .ok (.bipush 99, 2) := by decide +kernel
theorem dX12_wordOf_398 : decode cX12_wordOf 398 = .ok (.bipush 111, 2) := by decide +kernel
theorem dX12_wordOf_400 : decode cX12_wordOf 400 = .ok (.bipush 112, 2) := by decide +kernel
theorem dX12_wordOf_402 : decode cX12_wordOf 402 = .ok (.bipush 105, 2) := by decide +kernel
theorem dX12_wordOf_404 : decode cX12_wordOf 404 = .ok (.bipush 101, 2) := by decide +kernel
theorem dX12_wordOf_406 : decode cX12_wordOf 406 = .ok (.bipush 115, 2) := by decide +kernel
theorem dX12_wordOf_408 : decode cX12_wordOf 408 = .ok (.invokestatic 58, 3) := by decide +kernel
theorem dX12_wordOf_411 : decode cX12_wordOf 411 = .ok (.lreturn, 1) := by decide +kernel
theorem dX12_wordOf_412 : decode cX12_wordOf 412 = .ok (.bipush 115, 2) := by decide +kernel
theorem dX12_wordOf_414 : decode cX12_wordOf 414 = .ok (.bipush 116, 2) := by decide +kernel
theorem dX12_wordOf_416 : decode cX12_wordOf 416 = .ok (.bipush 97, 2) := by decide +kernel
theorem dX12_wordOf_418 : decode cX12_wordOf 418 = .ok (.bipush 109, 2) := by decide +kernel
theorem dX12_wordOf_420 : decode cX12_wordOf 420 = .ok (.bipush 112, 2) := by decide +kernel
theorem dX12_wordOf_422 : decode cX12_wordOf 422 = .ok (.iconst 0, 1) := by decide +kernel
theorem dX12_wordOf_423 : decode cX12_wordOf 423 = .ok (.invokestatic 58, 3) := by decide +kernel
theorem dX12_wordOf_426 : decode cX12_wordOf 426 = .ok (.lreturn, 1) := by decide +kernel
theorem dX12_wordOf_427 : decode cX12_wordOf 427 = .ok (.bipush 110, 2) := by decide +kernel
theorem dX12_wordOf_429 : decode cX12_wordOf 429 = .ok (.bipush 117, 2) := by decide +kernel
theorem dX12_wordOf_431 : decode cX12_wordOf 431 = .ok (.bipush 109, 2) := by decide +kernel
theorem dX12_wordOf_433 : decode cX12_wordOf 433 = .ok (.bipush 98, 2) := by decide +kernel
theorem dX12_wordOf_435 : decode cX12_wordOf 435 = .ok (.bipush 101, 2) := by decide +kernel
theorem dX12_wordOf_437 : decode cX12_wordOf 437 = .ok (.bipush 114, 2) := by decide +kernel
theorem dX12_wordOf_439 : decode cX12_wordOf 439 = .ok (.invokestatic 58, 3) := by decide +kernel
theorem dX12_wordOf_442 : decode cX12_wordOf 442 = .ok (.lreturn, 1) := by decide +kernel
theorem dX12_isWord_0 : decode cX12_isWord 0 = .ok (.aload_n 0, 1) := by decide +kernel
theorem dX12_isWord_1 : decode cX12_isWord 1 = .ok (.getfield 30, 3) := by decide +kernel
theorem dX12_isWord_4 : decode cX12_isWord 4 = .ok (.iconst 2, 1) := by decide +kernel
theorem dX12_isWord_5 : decode cX12_isWord 5 = .ok (.if_icmp .ne 19, 3) := by decide +kernel
theorem dX12_isWord_8 : decode cX12_isWord 8 = .ok (.aload_n 0, 1) := by decide +kernel
theorem dX12_isWord_9 : decode cX12_isWord 9 = .ok (.getfield 43, 3) := by decide +kernel
theorem dX12_isWord_12 : decode cX12_isWord 12 = .ok (.iload_n 1, 1) := by decide +kernel
theorem dX12_isWord_13 : decode cX12_isWord 13 = .ok (.invokestatic 62, 3) := by decide +kernel
theorem dX12_isWord_16 : decode cX12_isWord 16 = .ok (.lcmp, 1) := by decide +kernel
theorem dX12_isWord_17 : decode cX12_isWord 17 = .ok (.ifCond .ne 7, 3) := by decide +kernel
theorem dX12_isWord_20 : decode cX12_isWord 20 = .ok (.iconst 1, 1) := by decide +kernel
theorem dX12_isWord_21 : decode cX12_isWord 21 = .ok (.goto 4, 3) := by decide +kernel
theorem dX12_isWord_24 : decode cX12_isWord 24 = .ok (.iconst 0, 1) := by decide +kernel
theorem dX12_isWord_25 : decode cX12_isWord 25 = .ok (.ireturn, 1) := by decide +kernel
theorem dX12_isSign_0 : decode cX12_isSign 0 = .ok (.aload_n 0, 1) := by decide +kernel
theorem dX12_isSign_1 : decode cX12_isSign 1 = .ok (.getfield 30, 3) := by decide +kernel
theorem dX12_isSign_4 : decode cX12_isSign 4 = .ok (.iconst 4, 1) := by decide +kernel
theorem dX12_isSign_5 : decode cX12_isSign 5 = .ok (.if_icmp .ne 15, 3) := by decide +kernel
theorem dX12_isSign_8 : decode cX12_isSign 8 = .ok (.aload_n 0, 1) := by decide +kernel
theorem dX12_isSign_9 : decode cX12_isSign 9 = .ok (.getfield 40, 3) := by decide +kernel
theorem dX12_isSign_12 : decode cX12_isSign 12 = .ok (.iload_n 1, 1) := by decide +kernel
theorem dX12_isSign_13 : decode cX12_isSign 13 = .ok (.if_icmp .ne 7, 3) := by decide +kernel
theorem dX12_isSign_16 : decode cX12_isSign 16 = .ok (.iconst 1, 1) := by decide +kernel
theorem dX12_isSign_17 : decode cX12_isSign 17 = .ok (.goto 4, 3) := by decide +kernel
theorem dX12_isSign_20 : decode cX12_isSign 20 = .ok (.iconst 0, 1) := by decide +kernel
theorem dX12_isSign_21 : decode cX12_isSign 21 = .ok (.ireturn, 1) := by decide +kernel
theorem dX12_isName_0 : decode cX12_isName 0 = .ok (.aload_n 0, 1) := by decide +kernel
theorem dX12_isName_1 : decode cX12_isName 1 = .ok (.getfield 30, 3) := by decide +kernel
theorem dX12_isName_4 : decode cX12_isName 4 = .ok (.iconst 2, 1) := by decide +kernel
theorem dX12_isName_5 : decode cX12_isName 5 = .ok (.if_icmp .eq 5, 3) := by decide +kernel
theorem dX12_isName_8 : decode cX12_isName 8 = .ok (.iconst 0, 1) := by decide +kernel
theorem dX12_isName_9 : decode cX12_isName 9 = .ok (.ireturn, 1) := by decide +kernel
theorem dX12_isName_10 : decode cX12_isName 10 = .ok (.iconst 0, 1) := by decide +kernel
theorem dX12_isName_11 : decode cX12_isName 11 = .ok (.istore_n 1, 1) := by decide +kernel
theorem dX12_isName_12 : decode cX12_isName 12 = .ok (.iload_n 1, 1) := by decide +kernel
theorem dX12_isName_13 : decode cX12_isName 13 = .ok (.bipush 23, 2) := by decide +kernel
theorem dX12_isName_15 : decode cX12_isName 15 = .ok (.if_icmp .gt 23, 3) := by decide +kernel
theorem dX12_isName_18 : decode cX12_isName 18 = .ok (.aload_n 0, 1) := by decide +kernel
theorem dX12_isName_19 : decode cX12_isName 19 = .ok (.getfield 43, 3) := by decide +kernel
theorem dX12_isName_22 : decode cX12_isName 22 = .ok (.iload_n 1, 1) := by decide +kernel
theorem dX12_isName_23 : decode cX12_isName 23 = .ok (.invokestatic 62, 3) := by decide +kernel
theorem dX12_isName_26 : decode cX12_isName 26 = .ok (.lcmp, 1) := by decide +kernel
theorem dX12_isName_27 : decode cX12_isName 27 = .ok (.ifCond .ne 5, 3) := by decide +kernel
theorem dX12_isName_30 : decode cX12_isName 30 = .ok (.iconst 0, 1) := by decide +kernel
theorem dX12_isName_31 : decode cX12_isName 31 = .ok (.ireturn, 1) := by decide +kernel
theorem dX12_isName_32 : decode cX12_isName 32 = .ok (.iinc 1 1, 3) := by decide +kernel
theorem dX12_isName_35 : decode cX12_isName 35 = .ok (.goto (-23), 3) := by decide +kernel
theorem dX12_isName_38 : decode cX12_isName 38 = .ok (.iconst 1, 1) := by decide +kernel
theorem dX12_isName_39 : decode cX12_isName 39 = .ok (.ireturn, 1) := by decide +kernel
theorem dX12_bad_0 : decode cX12_bad 0 = .ok (.aload_n 0, 1) := by decide +kernel
theorem dX12_bad_1 : decode cX12_bad 1 = .ok (.aload_n 0, 1) := by decide +kernel
theorem dX12_bad_2 : decode cX12_bad 2 = .ok (.getfield 30, 3) := by decide +kernel
theorem dX12_bad_5 : decode cX12_bad 5 = .ok (.iconst 1, 1) := by decide +kernel
theorem dX12_bad_6 : decode cX12_bad 6 = .ok (.if_icmp .ne 7, 3) := by decide +kernel
theorem dX12_bad_9 : decode cX12_bad 9 = .ok (.iconst 1, 1) := by decide +kernel
theorem dX12_bad_10 : decode cX12_bad 10 = .ok (.goto 4, 3) := by decide +kernel
theorem dX12_bad_13 : decode cX12_bad 13 = .ok (.iload_n 1, 1) := by decide +kernel
theorem dX12_bad_14 : decode cX12_bad 14 = .ok (.putfield 66, 3) := by decide +kernel
theorem dX12_bad_17 : decode cX12_bad 17 = .ok (.aload_n 0, 1) := by decide +kernel
theorem dX12_bad_18 : decode cX12_bad 18 = .ok (.aload_n 0, 1) := by decide +kernel
theorem dX12_bad_19 : decode cX12_bad 19 = .ok (.getfield 24, 3) := by decide +kernel
theorem dX12_bad_22 : decode cX12_bad 22 = .ok (.putfield 69, 3) := by decide +kernel
theorem dX12_bad_25 : decode cX12_bad 25 = .ok (.iconst 0, 1) := by decide +kernel
theorem dX12_bad_26 : decode cX12_bad 26 = .ok (.ireturn, 1) := by decide +kernel
theorem dX12_readNumber_0 : decode cX12_readNumber 0 = .ok (.aload_n 0, 1) := by decide +kernel
theorem dX12_readNumber_1 : decode cX12_readNumber 1 = .ok (.getfield 30, 3) := by decide +kernel
theorem dX12_readNumber_4 : decode cX12_readNumber 4 = .ok (.iconst 3, 1) := by decide +kernel
theorem dX12_readNumber_5 : decode cX12_readNumber 5 = .ok (.if_icmp .eq 9, 3) := by decide +kernel
theorem dX12_readNumber_8 : decode cX12_readNumber 8 = .ok (.aload_n 0, 1) := by decide +kernel
theorem dX12_readNumber_9 : decode cX12_readNumber 9 = .ok (.iconst 1, 1) := by decide +kernel
theorem dX12_readNumber_10 : decode cX12_readNumber 10 = .ok (.invokevirtual 72, 3) := by decide +kernel
theorem dX12_readNumber_13 : decode cX12_readNumber 13 = .ok (.ireturn, 1) := by decide +kernel
theorem dX12_readNumber_14 : decode cX12_readNumber 14 = .ok (.aload_n 0, 1) := by decide +kernel
theorem dX12_readNumber_15 : decode cX12_readNumber 15 = .ok (.getfield 47, 3) := by decide +kernel
theorem dX12_readNumber_18 : decode cX12_readNumber 18 = .ok (.iload_n 1, 1) := by decide +kernel
theorem dX12_readNumber_19 : decode cX12_readNumber 19 = .ok (.iload_n 2, 1) := by decide +kernel
theorem dX12_readNumber_20 : decode cX12_readNumber 20 = .ok (.invokestatic 75, 3) := by decide +kernel
theorem dX12_readNumber_23 : decode cX12_readNumber 23 = .ok (.ifCond .ne 9, 3) := by decide +kernel
theorem dX12_readNumber_26 : decode cX12_readNumber 26 = .ok (.aload_n 0, 1) := by decide +kernel
theorem dX12_readNumber_27 : decode cX12_readNumber 27 = .ok (.iconst 2, 1) := by decide +kernel
theorem dX12_readNumber_28 : decode cX12_readNumber 28 = .ok (.invokevirtual 72, 3) := by decide +kernel
theorem dX12_readNumber_31 : decode cX12_readNumber 31 = .ok (.ireturn, 1) := by decide +kernel
theorem dX12_readNumber_32 : decode cX12_readNumber 32 = .ok (.aload_n 0, 1) := by decide +kernel
theorem dX12_readNumber_33 : decode cX12_readNumber 33 = .ok (.aload_n 0, 1) := by decide +kernel
theorem dX12_readNumber_34 : decode cX12_readNumber 34 = .ok (.getfield 47, 3) := by decide +kernel
theorem dX12_readNumber_37 : decode cX12_readNumber 37 = .ok (.putfield 79, 3) := by decide +kernel
theorem dX12_readNumber_40 : decode cX12_readNumber 40 = .ok (.aload_n 0, 1) := by decide +kernel
theorem dX12_readNumber_41 : decode cX12_readNumber 41 = .ok (.invokevirtual 82, 3) := by decide +kernel
theorem dX12_readNumber_44 : decode cX12_readNumber 44 = .ok (.iconst 1, 1) := by decide +kernel
theorem dX12_readNumber_45 : decode cX12_readNumber 45 = .ok (.ireturn, 1) := by decide +kernel
theorem dX12_readEnd_0 : decode cX12_readEnd 0 = .ok (.aload_n 0, 1) := by decide +kernel
theorem dX12_readEnd_1 : decode cX12_readEnd 1 = .ok (.bipush 59, 2) := by decide +kernel
theorem dX12_readEnd_3 : decode cX12_readEnd 3 = .ok (.invokevirtual 86, 3) := by decide +kernel
theorem dX12_readEnd_6 : decode cX12_readEnd 6 = .ok (.ifCond .ne 9, 3) := by decide +kernel
theorem dX12_readEnd_9 : decode cX12_readEnd 9 = .ok (.aload_n 0, 1) := by decide +kernel
theorem dX12_readEnd_10 : decode cX12_readEnd 10 = .ok (.iconst 1, 1) := by decide +kernel
theorem dX12_readEnd_11 : decode cX12_readEnd 11 = .ok (.invokevirtual 72, 3) := by decide +kernel
theorem dX12_readEnd_14 : decode cX12_readEnd 14 = .ok (.ireturn, 1) := by decide +kernel
theorem dX12_readEnd_15 : decode cX12_readEnd 15 = .ok (.aload_n 0, 1) := by decide +kernel
theorem dX12_readEnd_16 : decode cX12_readEnd 16 = .ok (.invokevirtual 82, 3) := by decide +kernel
theorem dX12_readEnd_19 : decode cX12_readEnd 19 = .ok (.iconst 1, 1) := by decide +kernel
theorem dX12_readEnd_20 : decode cX12_readEnd 20 = .ok (.ireturn, 1) := by decide +kernel
theorem dX12_begin_0 : decode cX12_begin 0 = .ok (.aload_n 0, 1) := by decide +kernel
theorem dX12_begin_1 : decode cX12_begin 1 = .ok (.iconst 0, 1) := by decide +kernel
theorem dX12_begin_2 : decode cX12_begin 2 = .ok (.putfield 1, 3) := by decide +kernel
theorem dX12_begin_5 : decode cX12_begin 5 = .ok (.aload_n 0, 1) := by decide +kernel
theorem dX12_begin_6 : decode cX12_begin 6 = .ok (.aload_n 0, 1) := by decide +kernel
theorem dX12_begin_7 : decode cX12_begin 7 = .ok (.invokevirtual 89, 3) := by decide +kernel
theorem dX12_begin_10 : decode cX12_begin 10 = .ok (.putfield 18, 3) := by decide +kernel
theorem dX12_begin_13 : decode cX12_begin 13 = .ok (.aload_n 0, 1) := by decide +kernel
theorem dX12_begin_14 : decode cX12_begin 14 = .ok (.iload_n 1, 1) := by decide +kernel
theorem dX12_begin_15 : decode cX12_begin 15 = .ok (.putfield 27, 3) := by decide +kernel
theorem dX12_begin_18 : decode cX12_begin 18 = .ok (.aload_n 0, 1) := by decide +kernel
theorem dX12_begin_19 : decode cX12_begin 19 = .ok (.iconst 0, 1) := by decide +kernel
theorem dX12_begin_20 : decode cX12_begin 20 = .ok (.putfield 66, 3) := by decide +kernel
theorem dX12_begin_23 : decode cX12_begin 23 = .ok (.aload_n 0, 1) := by decide +kernel
theorem dX12_begin_24 : decode cX12_begin 24 = .ok (.iconst 0, 1) := by decide +kernel
theorem dX12_begin_25 : decode cX12_begin 25 = .ok (.putfield 21, 3) := by decide +kernel
theorem dX12_begin_28 : decode cX12_begin 28 = .ok (.aload_n 0, 1) := by decide +kernel
theorem dX12_begin_29 : decode cX12_begin 29 = .ok (.invokevirtual 82, 3) := by decide +kernel
theorem dX12_begin_32 : decode cX12_begin 32 = .ok (.return_, 1) := by decide +kernel
theorem dX12_init_0 : decode cX12_init 0 = .ok (.aload_n 0, 1) := by decide +kernel
theorem dX12_init_1 : decode cX12_init 1 = .ok (.invokespecial 93, 3) := by decide +kernel
theorem dX12_init_4 : decode cX12_init 4 = .ok (.aload_n 0, 1) := by decide +kernel
theorem dX12_init_5 : decode cX12_init 5 = .ok (.sipush 940, 3) := by decide +kernel
theorem dX12_init_8 : decode cX12_init 8 = .ok (.newarray .int, 2) := by decide +kernel
theorem dX12_init_10 : decode cX12_init 10 = .ok (.putfield 7, 3) := by decide +kernel
theorem dX12_init_13 : decode cX12_init 13 = .ok (.aload_n 0, 1) := by decide +kernel
theorem dX12_init_14 : decode cX12_init 14 = .ok (.sipush 647, 3) := by decide +kernel
theorem dX12_init_17 : decode cX12_init 17 = .ok (.newarray .int, 2) := by decide +kernel
theorem dX12_init_19 : decode cX12_init 19 = .ok (.putfield 98, 3) := by decide +kernel
theorem dX12_init_22 : decode cX12_init 22 = .ok (.aload_n 0, 1) := by decide +kernel
theorem dX12_init_23 : decode cX12_init 23 = .ok (.sipush 202, 3) := by decide +kernel
theorem dX12_init_26 : decode cX12_init 26 = .ok (.newarray .int, 2) := by decide +kernel
theorem dX12_init_28 : decode cX12_init 28 = .ok (.putfield 101, 3) := by decide +kernel
theorem dX12_init_31 : decode cX12_init 31 = .ok (.aload_n 0, 1) := by decide +kernel
theorem dX12_init_32 : decode cX12_init 32 = .ok (.sipush 1294, 3) := by decide +kernel
theorem dX12_init_35 : decode cX12_init 35 = .ok (.newarray .int, 2) := by decide +kernel
theorem dX12_init_37 : decode cX12_init 37 = .ok (.putfield 104, 3) := by decide +kernel
theorem dX12_init_40 : decode cX12_init 40 = .ok (.aload_n 0, 1) := by decide +kernel
theorem dX12_init_41 : decode cX12_init 41 = .ok (.sipush 1624, 3) := by decide +kernel
theorem dX12_init_44 : decode cX12_init 44 = .ok (.newarray .int, 2) := by decide +kernel
theorem dX12_init_46 : decode cX12_init 46 = .ok (.putfield 107, 3) := by decide +kernel
theorem dX12_init_49 : decode cX12_init 49 = .ok (.aload_n 0, 1) := by decide +kernel
theorem dX12_init_50 : decode cX12_init 50 = .ok (.sipush 203, 3) := by decide +kernel
theorem dX12_init_53 : decode cX12_init 53 = .ok (.newarray .int, 2) := by decide +kernel
theorem dX12_init_55 : decode cX12_init 55 = .ok (.putfield 110, 3) := by decide +kernel
theorem dX12_init_58 : decode cX12_init 58 = .ok (.aload_n 0, 1) := by decide +kernel
theorem dX12_init_59 : decode cX12_init 59 = .ok (.sipush 203, 3) := by decide +kernel
theorem dX12_init_62 : decode cX12_init 62 = .ok (.newarray .int, 2) := by decide +kernel
theorem dX12_init_64 : decode cX12_init 64 = .ok (.putfield 113, 3) := by decide +kernel
theorem dX12_init_67 : decode cX12_init 67 = .ok (.aload_n 0, 1) := by decide +kernel
theorem dX12_init_68 : decode cX12_init 68 = .ok (.bipush 28, 2) := by decide +kernel
theorem dX12_init_70 : decode cX12_init 70 = .ok (.newarray .long, 2) := by decide +kernel
theorem dX12_init_72 : decode cX12_init 72 = .ok (.putfield 116, 3) := by decide +kernel
theorem dX12_init_75 : decode cX12_init 75 = .ok (.aload_n 0, 1) := by decide +kernel
theorem dX12_init_76 : decode cX12_init 76 = .ok (.bipush 28, 2) := by decide +kernel
theorem dX12_init_78 : decode cX12_init 78 = .ok (.newarray .long, 2) := by decide +kernel
theorem dX12_init_80 : decode cX12_init 80 = .ok (.putfield 120, 3) := by decide +kernel
theorem dX12_init_83 : decode cX12_init 83 = .ok (.aload_n 0, 1) := by decide +kernel
theorem dX12_init_84 : decode cX12_init 84 = .ok (.bipush 56, 2) := by decide +kernel
theorem dX12_init_86 : decode cX12_init 86 = .ok (.newarray .long, 2) := by decide +kernel
theorem dX12_init_88 : decode cX12_init 88 = .ok (.putfield 123, 3) := by decide +kernel
theorem dX12_init_91 : decode cX12_init 91 = .ok (.aload_n 0, 1) := by decide +kernel
theorem dX12_init_92 : decode cX12_init 92 = .ok (.iconst 2, 1) := by decide +kernel
theorem dX12_init_93 : decode cX12_init 93 = .ok (.newarray .boolean, 2) := by decide +kernel
theorem dX12_init_95 : decode cX12_init 95 = .ok (.putfield 126, 3) := by decide +kernel
theorem dX12_init_98 : decode cX12_init 98 = .ok (.aload_n 0, 1) := by decide +kernel
theorem dX12_init_99 : decode cX12_init 99 = .ok (.iconst 3, 1) := by decide +kernel
theorem dX12_init_100 : decode cX12_init 100 = .ok (.newarray .boolean, 2) := by decide +kernel
theorem dX12_init_102 : decode cX12_init 102 = .ok (.putfield 130, 3) := by decide +kernel
theorem dX12_init_105 : decode cX12_init 105 = .ok (.aload_n 0, 1) := by decide +kernel
theorem dX12_init_106 : decode cX12_init 106 = .ok (.iconst (-1), 1) := by decide +kernel
theorem dX12_init_107 : decode cX12_init 107 = .ok (.putfield 133, 3) := by decide +kernel
theorem dX12_init_110 : decode cX12_init 110 = .ok (.aload_n 0, 1) := by decide +kernel
theorem dX12_init_111 : decode cX12_init 111 = .ok (.bipush 24, 2) := by decide +kernel
theorem dX12_init_113 : decode cX12_init 113 = .ok (.newarray .int, 2) := by decide +kernel
theorem dX12_init_115 : decode cX12_init 115 = .ok (.putfield 136, 3) := by decide +kernel
theorem dX12_init_118 : decode cX12_init 118 = .ok (.aload_n 0, 1) := by decide +kernel
theorem dX12_init_119 : decode cX12_init 119 = .ok (.bipush 24, 2) := by decide +kernel
theorem dX12_init_121 : decode cX12_init 121 = .ok (.newarray .int, 2) := by decide +kernel
theorem dX12_init_123 : decode cX12_init 123 = .ok (.putfield 139, 3) := by decide +kernel
theorem dX12_init_126 : decode cX12_init 126 = .ok (.aload_n 0, 1) := by decide +kernel
theorem dX12_init_127 : decode cX12_init 127 = .ok (.bipush 24, 2) := by decide +kernel
theorem dX12_init_129 : decode cX12_init 129 = .ok (.newarray .int, 2) := by decide +kernel
theorem dX12_init_131 : decode cX12_init 131 = .ok (.putfield 142, 3) := by decide +kernel
theorem dX12_init_134 : decode cX12_init 134 = .ok (.aload_n 0, 1) := by decide +kernel
theorem dX12_init_135 : decode cX12_init 135 = .ok (.bipush 24, 2) := by decide +kernel
theorem dX12_init_137 : decode cX12_init 137 = .ok (.newarray .int, 2) := by decide +kernel
theorem dX12_init_139 : decode cX12_init 139 = .ok (.putfield 145, 3) := by decide +kernel
theorem dX12_init_142 : decode cX12_init 142 = .ok (.aload_n 0, 1) := by decide +kernel
theorem dX12_init_143 : decode cX12_init 143 = .ok (.iconst 2, 1) := by decide +kernel
theorem dX12_init_144 : decode cX12_init 144 = .ok (.newarray .int, 2) := by decide +kernel
theorem dX12_init_146 : decode cX12_init 146 = .ok (.putfield 148, 3) := by decide +kernel
theorem dX12_init_149 : decode cX12_init 149 = .ok (.aload_n 0, 1) := by decide +kernel
theorem dX12_init_150 : decode cX12_init 150 = .ok (.bipush 48, 2) := by decide +kernel
theorem dX12_init_152 : decode cX12_init 152 = .ok (.newarray .int, 2) := by decide +kernel
theorem dX12_init_154 : decode cX12_init 154 = .ok (.putfield 151, 3) := by decide +kernel
theorem dX12_init_157 : decode cX12_init 157 = .ok (.aload_n 0, 1) := by decide +kernel
theorem dX12_init_158 : decode cX12_init 158 = .ok (.bipush 48, 2) := by decide +kernel
theorem dX12_init_160 : decode cX12_init 160 = .ok (.newarray .int, 2) := by decide +kernel
theorem dX12_init_162 : decode cX12_init 162 = .ok (.putfield 154, 3) := by decide +kernel
theorem dX12_init_165 : decode cX12_init 165 = .ok (.aload_n 0, 1) := by decide +kernel
theorem dX12_init_166 : decode cX12_init 166 = .ok (.bipush 48, 2) := by decide +kernel
theorem dX12_init_168 : decode cX12_init 168 = .ok (.newarray .int, 2) := by decide +kernel
theorem dX12_init_170 : decode cX12_init 170 = .ok (.putfield 157, 3) := by decide +kernel
theorem dX12_init_173 : decode cX12_init 173 = .ok (.aload_n 0, 1) := by decide +kernel
theorem dX12_init_174 : decode cX12_init 174 = .ok (.bipush 48, 2) := by decide +kernel
theorem dX12_init_176 : decode cX12_init 176 = .ok (.newarray .int, 2) := by decide +kernel
theorem dX12_init_178 : decode cX12_init 178 = .ok (.putfield 160, 3) := by decide +kernel
theorem dX12_init_181 : decode cX12_init 181 = .ok (.aload_n 0, 1) := by decide +kernel
theorem dX12_init_182 : decode cX12_init 182 = .ok (.bipush 48, 2) := by decide +kernel
theorem dX12_init_184 : decode cX12_init 184 = .ok (.newarray .int, 2) := by decide +kernel
theorem dX12_init_186 : decode cX12_init 186 = .ok (.putfield 163, 3) := by decide +kernel
theorem dX12_init_189 : decode cX12_init 189 = .ok (.aload_n 0, 1) := by decide +kernel
theorem dX12_init_190 : decode cX12_init 190 = .ok (.bipush 48, 2) := by decide +kernel
theorem dX12_init_192 : decode cX12_init 192 = .ok (.newarray .int, 2) := by decide +kernel
theorem dX12_init_194 : decode cX12_init 194 = .ok (.putfield 166, 3) := by decide +kernel
theorem dX12_init_197 : decode cX12_init 197 = .ok (.aload_n 0, 1) := by decide +kernel
theorem dX12_init_198 : decode cX12_init 198 = .ok (.bipush 48, 2) := by decide +kernel
theorem dX12_init_200 : decode cX12_init 200 = .ok (.newarray .int, 2) := by decide +kernel
theorem dX12_init_202 : decode cX12_init 202 = .ok (.putfield 169, 3) := by decide +kernel
theorem dX12_init_205 : decode cX12_init 205 = .ok (.aload_n 0, 1) := by decide +kernel
theorem dX12_init_206 : decode cX12_init 206 = .ok (.bipush 48, 2) := by decide +kernel
theorem dX12_init_208 : decode cX12_init 208 = .ok (.newarray .int, 2) := by decide +kernel
theorem dX12_init_210 : decode cX12_init 210 = .ok (.putfield 172, 3) := by decide +kernel
theorem dX12_init_213 : decode cX12_init 213 = .ok (.aload_n 0, 1) := by decide +kernel
theorem dX12_init_214 : decode cX12_init 214 = .ok (.bipush 24, 2) := by decide +kernel
theorem dX12_init_216 : decode cX12_init 216 = .ok (.newarray .int, 2) := by decide +kernel
theorem dX12_init_218 : decode cX12_init 218 = .ok (.putfield 175, 3) := by decide +kernel
theorem dX12_init_221 : decode cX12_init 221 = .ok (.aload_n 0, 1) := by decide +kernel
theorem dX12_init_222 : decode cX12_init 222 = .ok (.bipush 24, 2) := by decide +kernel
theorem dX12_init_224 : decode cX12_init 224 = .ok (.newarray .int, 2) := by decide +kernel
theorem dX12_init_226 : decode cX12_init 226 = .ok (.putfield 178, 3) := by decide +kernel
theorem dX12_init_229 : decode cX12_init 229 = .ok (.aload_n 0, 1) := by decide +kernel
theorem dX12_init_230 : decode cX12_init 230 = .ok (.bipush 48, 2) := by decide +kernel
theorem dX12_init_232 : decode cX12_init 232 = .ok (.newarray .int, 2) := by decide +kernel
theorem dX12_init_234 : decode cX12_init 234 = .ok (.putfield 181, 3) := by decide +kernel
theorem dX12_init_237 : decode cX12_init 237 = .ok (.aload_n 0, 1) := by decide +kernel
theorem dX12_init_238 : decode cX12_init 238 = .ok (.iconst 4, 1) := by decide +kernel
theorem dX12_init_239 : decode cX12_init 239 = .ok (.newarray .int, 2) := by decide +kernel
theorem dX12_init_241 : decode cX12_init 241 = .ok (.putfield 184, 3) := by decide +kernel
theorem dX12_init_244 : decode cX12_init 244 = .ok (.aload_n 0, 1) := by decide +kernel
theorem dX12_init_245 : decode cX12_init 245 = .ok (.iconst 4, 1) := by decide +kernel
theorem dX12_init_246 : decode cX12_init 246 = .ok (.newarray .int, 2) := by decide +kernel
theorem dX12_init_248 : decode cX12_init 248 = .ok (.putfield 187, 3) := by decide +kernel
theorem dX12_init_251 : decode cX12_init 251 = .ok (.aload_n 0, 1) := by decide +kernel
theorem dX12_init_252 : decode cX12_init 252 = .ok (.sipush 160, 3) := by decide +kernel
theorem dX12_init_255 : decode cX12_init 255 = .ok (.newarray .int, 2) := by decide +kernel
theorem dX12_init_257 : decode cX12_init 257 = .ok (.putfield 190, 3) := by decide +kernel
theorem dX12_init_260 : decode cX12_init 260 = .ok (.aload_n 0, 1) := by decide +kernel
theorem dX12_init_261 : decode cX12_init 261 = .ok (.iconst 4, 1) := by decide +kernel
theorem dX12_init_262 : decode cX12_init 262 = .ok (.newarray .int, 2) := by decide +kernel
theorem dX12_init_264 : decode cX12_init 264 = .ok (.putfield 193, 3) := by decide +kernel
theorem dX12_init_267 : decode cX12_init 267 = .ok (.aload_n 0, 1) := by decide +kernel
theorem dX12_init_268 : decode cX12_init 268 = .ok (.sipush 240, 3) := by decide +kernel
theorem dX12_init_271 : decode cX12_init 271 = .ok (.newarray .int, 2) := by decide +kernel
theorem dX12_init_273 : decode cX12_init 273 = .ok (.putfield 196, 3) := by decide +kernel
theorem dX12_init_276 : decode cX12_init 276 = .ok (.aload_n 0, 1) := by decide +kernel
theorem dX12_init_277 : decode cX12_init 277 = .ok (.getfield 98, 3) := by decide +kernel
theorem dX12_init_280 : decode cX12_init 280 = .ok (.iconst 2, 1) := by decide +kernel
theorem dX12_init_281 : decode cX12_init 281 = .ok (.iconst 2, 1) := by decide +kernel
theorem dX12_init_282 : decode cX12_init 282 = .ok (.iastore, 1) := by decide +kernel
theorem dX12_init_283 : decode cX12_init 283 = .ok (.aload_n 0, 1) := by decide +kernel
theorem dX12_init_284 : decode cX12_init 284 = .ok (.getfield 98, 3) := by decide +kernel
theorem dX12_init_287 : decode cX12_init 287 = .ok (.iconst 3, 1) := by decide +kernel
theorem dX12_init_288 : decode cX12_init 288 = .ok (.iconst 4, 1) := by decide +kernel
theorem dX12_init_289 : decode cX12_init 289 = .ok (.iastore, 1) := by decide +kernel
theorem dX12_init_290 : decode cX12_init 290 = .ok (.return_, 1) := by decide +kernel
theorem dX12_startSo_0 : decode cX12_startSo 0 = .ok (.sipush 202, 3) := by decide +kernel
theorem dX12_startSo_3 : decode cX12_startSo 3 = .ok (.istore_n 1, 1) := by decide +kernel
theorem dX12_startSo_4 : decode cX12_startSo 4 = .ok (.iload_n 1, 1) := by decide +kernel
theorem dX12_startSo_5 : decode cX12_startSo 5 = .ok (.sipush 647, 3) := by decide +kernel
theorem dX12_startSo_8 : decode cX12_startSo 8 = .ok (.if_icmp .ge 16, 3) := by decide +kernel
theorem dX12_startSo_11 : decode cX12_startSo 11 = .ok (.aload_n 0, 1) := by decide +kernel
theorem dX12_startSo_12 : decode cX12_startSo 12 = .ok (.getfield 98, 3) := by decide +kernel
theorem dX12_startSo_15 : decode cX12_startSo 15 = .ok (.iload_n 1, 1) := by decide +kernel
theorem dX12_startSo_16 : decode cX12_startSo 16 = .ok (.iconst 0, 1) := by decide +kernel
theorem dX12_startSo_17 : decode cX12_startSo 17 = .ok (.iastore, 1) := by decide +kernel
theorem dX12_startSo_18 : decode cX12_startSo 18 = .ok (.iinc 1 1, 3) := by decide +kernel
theorem dX12_startSo_21 : decode cX12_startSo 21 = .ok (.goto (-17), 3) := by decide +kernel
theorem dX12_startSo_24 : decode cX12_startSo 24 = .ok (.aload_n 0, 1) := by decide +kernel
theorem dX12_startSo_25 : decode cX12_startSo 25 = .ok (.getfield 98, 3) := by decide +kernel
theorem dX12_startSo_28 : decode cX12_startSo 28 = .ok (.sipush 204, 3) := by decide +kernel
theorem dX12_startSo_31 : decode cX12_startSo 31 = .ok (.aload_n 0, 1) := by decide +kernel
theorem dX12_startSo_32 : decode cX12_startSo 32 = .ok (.getfield 98, 3) := by decide +kernel
theorem dX12_startSo_35 : decode cX12_startSo 35 = .ok (.iconst 5, 1) := by decide +kernel
theorem dX12_startSo_36 : decode cX12_startSo 36 = .ok (.iaload, 1) := by decide +kernel
theorem dX12_startSo_37 : decode cX12_startSo 37 = .ok (.iastore, 1) := by decide +kernel
theorem dX12_startSo_38 : decode cX12_startSo 38 = .ok (.iconst 0, 1) := by decide +kernel
theorem dX12_startSo_39 : decode cX12_startSo 39 = .ok (.istore_n 1, 1) := by decide +kernel
theorem dX12_startSo_40 : decode cX12_startSo 40 = .ok (.iload_n 1, 1) := by decide +kernel
theorem dX12_startSo_41 : decode cX12_startSo 41 = .ok (.iconst 4, 1) := by decide +kernel
theorem dX12_startSo_42 : decode cX12_startSo 42 = .ok (.if_icmp .ge 28, 3) := by decide +kernel
theorem dX12_startSo_45 : decode cX12_startSo 45 = .ok (.aload_n 0, 1) := by decide +kernel
theorem dX12_startSo_46 : decode cX12_startSo 46 = .ok (.getfield 98, 3) := by decide +kernel
theorem dX12_startSo_49 : decode cX12_startSo 49 = .ok (.sipush 205, 3) := by decide +kernel
theorem dX12_startSo_52 : decode cX12_startSo 52 = .ok (.iload_n 1, 1) := by decide +kernel
theorem dX12_startSo_53 : decode cX12_startSo 53 = .ok (.iadd, 1) := by decide +kernel
theorem dX12_startSo_54 : decode cX12_startSo 54 = .ok (.aload_n 0, 1) := by decide +kernel
theorem dX12_startSo_55 : decode cX12_startSo 55 = .ok (.getfield 98, 3) := by decide +kernel
theorem dX12_startSo_58 : decode cX12_startSo 58 = .ok (.bipush 6, 2) := by decide +kernel
theorem dX12_startSo_60 : decode cX12_startSo 60 = .ok (.iload_n 1, 1) := by decide +kernel
theorem dX12_startSo_61 : decode cX12_startSo 61 = .ok (.iadd, 1) := by decide +kernel
theorem dX12_startSo_62 : decode cX12_startSo 62 = .ok (.iaload, 1) := by decide +kernel
theorem dX12_startSo_63 : decode cX12_startSo 63 = .ok (.iastore, 1) := by decide +kernel
theorem dX12_startSo_64 : decode cX12_startSo 64 = .ok (.iinc 1 1, 3) := by decide +kernel
theorem dX12_startSo_67 : decode cX12_startSo 67 = .ok (.goto (-27), 3) := by decide +kernel
theorem dX12_startSo_70 : decode cX12_startSo 70 = .ok (.iconst 0, 1) := by decide +kernel
theorem dX12_startSo_71 : decode cX12_startSo 71 = .ok (.istore_n 1, 1) := by decide +kernel
theorem dX12_startSo_72 : decode cX12_startSo 72 = .ok (.iload_n 1, 1) := by decide +kernel
theorem dX12_startSo_73 : decode cX12_startSo 73 = .ok (.bipush 96, 2) := by decide +kernel
theorem dX12_startSo_75 : decode cX12_startSo 75 = .ok (.if_icmp .ge 47, 3) := by decide +kernel
theorem dX12_startSo_78 : decode cX12_startSo 78 = .ok (.aload_n 0, 1) := by decide +kernel
theorem dX12_startSo_79 : decode cX12_startSo 79 = .ok (.getfield 98, 3) := by decide +kernel
theorem dX12_startSo_82 : decode cX12_startSo 82 = .ok (.sipush 213, 3) := by decide +kernel
theorem dX12_startSo_85 : decode cX12_startSo 85 = .ok (.iload_n 1, 1) := by decide +kernel
theorem dX12_startSo_86 : decode cX12_startSo 86 = .ok (.iadd, 1) := by decide +kernel
theorem dX12_startSo_87 : decode cX12_startSo 87 = .ok (.aload_n 0, 1) := by decide +kernel
theorem dX12_startSo_88 : decode cX12_startSo 88 = .ok (.getfield 98, 3) := by decide +kernel
theorem dX12_startSo_91 : decode cX12_startSo 91 = .ok (.bipush 10, 2) := by decide +kernel
theorem dX12_startSo_93 : decode cX12_startSo 93 = .ok (.iload_n 1, 1) := by decide +kernel
theorem dX12_startSo_94 : decode cX12_startSo 94 = .ok (.iadd, 1) := by decide +kernel
theorem dX12_startSo_95 : decode cX12_startSo 95 = .ok (.iaload, 1) := by decide +kernel
theorem dX12_startSo_96 : decode cX12_startSo 96 = .ok (.iastore, 1) := by decide +kernel
theorem dX12_startSo_97 : decode cX12_startSo 97 = .ok (.aload_n 0, 1) := by decide +kernel
theorem dX12_startSo_98 : decode cX12_startSo 98 = .ok (.getfield 98, 3) := by decide +kernel
theorem dX12_startSo_101 : decode cX12_startSo 101 = .ok (.sipush 309, 3) := by decide +kernel
theorem dX12_startSo_104 : decode cX12_startSo 104 = .ok (.iload_n 1, 1) := by decide +kernel
theorem dX12_startSo_105 : decode cX12_startSo 105 = .ok (.iadd, 1) := by decide +kernel
theorem dX12_startSo_106 : decode cX12_startSo 106 = .ok (.aload_n 0, 1) := by decide +kernel
theorem dX12_startSo_107 : decode cX12_startSo 107 = .ok (.getfield 98, 3) := by decide +kernel
theorem dX12_startSo_110 : decode cX12_startSo 110 = .ok (.bipush 106, 2) := by decide +kernel
theorem dX12_startSo_112 : decode cX12_startSo 112 = .ok (.iload_n 1, 1) := by decide +kernel
theorem dX12_startSo_113 : decode cX12_startSo 113 = .ok (.iadd, 1) := by decide +kernel
theorem dX12_startSo_114 : decode cX12_startSo 114 = .ok (.iaload, 1) := by decide +kernel
theorem dX12_startSo_115 : decode cX12_startSo 115 = .ok (.iastore, 1) := by decide +kernel
theorem dX12_startSo_116 : decode cX12_startSo 116 = .ok (.iinc 1 1, 3) := by decide +kernel
theorem dX12_startSo_119 : decode cX12_startSo 119 = .ok (.goto (-47), 3) := by decide +kernel
theorem dX12_startSo_122 : decode cX12_startSo 122 = .ok (.aload_n 0, 1) := by decide +kernel
theorem dX12_startSo_123 : decode cX12_startSo 123 = .ok (.invokevirtual 199, 3) := by decide +kernel
theorem dX12_startSo_126 : decode cX12_startSo 126 = .ok (.return_, 1) := by decide +kernel
theorem dX12_findIn_0 : decode cX12_findIn 0 = .ok (.iconst 0, 1) := by decide +kernel
theorem dX12_findIn_1 : decode cX12_findIn 1 = .ok (.istore 5, 2) := by decide +kernel
theorem dX12_findIn_3 : decode cX12_findIn 3 = .ok (.iload 5, 2) := by decide +kernel
theorem dX12_findIn_5 : decode cX12_findIn 5 = .ok (.iload_n 2, 1) := by decide +kernel
theorem dX12_findIn_6 : decode cX12_findIn 6 = .ok (.if_icmp .ge 23, 3) := by decide +kernel
theorem dX12_findIn_9 : decode cX12_findIn 9 = .ok (.aload_n 0, 1) := by decide +kernel
theorem dX12_findIn_10 : decode cX12_findIn 10 = .ok (.iload_n 1, 1) := by decide +kernel
theorem dX12_findIn_11 : decode cX12_findIn 11 = .ok (.iload 5, 2) := by decide +kernel
theorem dX12_findIn_13 : decode cX12_findIn 13 = .ok (.iadd, 1) := by decide +kernel
theorem dX12_findIn_14 : decode cX12_findIn 14 = .ok (.laload, 1) := by decide +kernel
theorem dX12_findIn_15 : decode cX12_findIn 15 = .ok (.lload_n 3, 1) := by decide +kernel
theorem dX12_findIn_16 : decode cX12_findIn 16 = .ok (.lcmp, 1) := by decide +kernel
theorem dX12_findIn_17 : decode cX12_findIn 17 = .ok (.ifCond .ne 6, 3) := by decide +kernel
theorem dX12_findIn_20 : decode cX12_findIn 20 = .ok (.iload 5, 2) := by decide +kernel
theorem dX12_findIn_22 : decode cX12_findIn 22 = .ok (.ireturn, 1) := by decide +kernel
theorem dX12_findIn_23 : decode cX12_findIn 23 = .ok (.iinc 5 1, 3) := by decide +kernel
theorem dX12_findIn_26 : decode cX12_findIn 26 = .ok (.goto (-23), 3) := by decide +kernel
theorem dX12_findIn_29 : decode cX12_findIn 29 = .ok (.iconst (-1), 1) := by decide +kernel
theorem dX12_findIn_30 : decode cX12_findIn 30 = .ok (.ireturn, 1) := by decide +kernel
theorem dX12_readNew_0 : decode cX12_readNew 0 = .ok (.aload_n 0, 1) := by decide +kernel
theorem dX12_readNew_1 : decode cX12_readNew 1 = .ok (.invokevirtual 202, 3) := by decide +kernel
theorem dX12_readNew_4 : decode cX12_readNew 4 = .ok (.ifCond .ne 9, 3) := by decide +kernel
theorem dX12_readNew_7 : decode cX12_readNew 7 = .ok (.aload_n 0, 1) := by decide +kernel
theorem dX12_readNew_8 : decode cX12_readNew 8 = .ok (.iconst 1, 1) := by decide +kernel
theorem dX12_readNew_9 : decode cX12_readNew 9 = .ok (.invokevirtual 72, 3) := by decide +kernel
theorem dX12_readNew_12 : decode cX12_readNew 12 = .ok (.ireturn, 1) := by decide +kernel
theorem dX12_readNew_13 : decode cX12_readNew 13 = .ok (.aload_n 0, 1) := by decide +kernel
theorem dX12_readNew_14 : decode cX12_readNew 14 = .ok (.getfield 120, 3) := by decide +kernel
theorem dX12_readNew_17 : decode cX12_readNew 17 = .ok (.iconst 0, 1) := by decide +kernel
theorem dX12_readNew_18 : decode cX12_readNew 18 = .ok (.aload_n 0, 1) := by decide +kernel
theorem dX12_readNew_19 : decode cX12_readNew 19 = .ok (.getfield 101, 3) := by decide +kernel
theorem dX12_readNew_22 : decode cX12_readNew 22 = .ok (.iconst 0, 1) := by decide +kernel
theorem dX12_readNew_23 : decode cX12_readNew 23 = .ok (.iaload, 1) := by decide +kernel
theorem dX12_readNew_24 : decode cX12_readNew 24 = .ok (.aload_n 0, 1) := by decide +kernel
theorem dX12_readNew_25 : decode cX12_readNew 25 = .ok (.getfield 43, 3) := by decide +kernel
theorem dX12_readNew_28 : decode cX12_readNew 28 = .ok (.invokestatic 206, 3) := by decide +kernel
theorem dX12_readNew_31 : decode cX12_readNew 31 = .ok (.iconst (-1), 1) := by decide +kernel
theorem dX12_readNew_32 : decode cX12_readNew 32 = .ok (.if_icmp .ne 26, 3) := by decide +kernel
theorem dX12_readNew_35 : decode cX12_readNew 35 = .ok (.aload_n 0, 1) := by decide +kernel
theorem dX12_readNew_36 : decode cX12_readNew 36 = .ok (.getfield 120, 3) := by decide +kernel
theorem dX12_readNew_39 : decode cX12_readNew 39 = .ok (.bipush 24, 2) := by decide +kernel
theorem dX12_readNew_41 : decode cX12_readNew 41 = .ok (.aload_n 0, 1) := by decide +kernel
theorem dX12_readNew_42 : decode cX12_readNew 42 = .ok (.getfield 101, 3) := by decide +kernel
theorem dX12_readNew_45 : decode cX12_readNew 45 = .ok (.iconst 1, 1) := by decide +kernel
theorem dX12_readNew_46 : decode cX12_readNew 46 = .ok (.iaload, 1) := by decide +kernel
theorem dX12_readNew_47 : decode cX12_readNew 47 = .ok (.aload_n 0, 1) := by decide +kernel
theorem dX12_readNew_48 : decode cX12_readNew 48 = .ok (.getfield 43, 3) := by decide +kernel
theorem dX12_readNew_51 : decode cX12_readNew 51 = .ok (.invokestatic 206, 3) := by decide +kernel
theorem dX12_readNew_54 : decode cX12_readNew 54 = .ok (.iconst (-1), 1) := by decide +kernel
theorem dX12_readNew_55 : decode cX12_readNew 55 = .ok (.if_icmp .eq 9, 3) := by decide +kernel
theorem dX12_readNew_58 : decode cX12_readNew 58 = .ok (.aload_n 0, 1) := by decide +kernel
theorem dX12_readNew_59 : decode cX12_readNew 59 = .ok (.iconst 3, 1) := by decide +kernel
theorem dX12_readNew_60 : decode cX12_readNew 60 = .ok (.invokevirtual 72, 3) := by decide +kernel
theorem dX12_readNew_63 : decode cX12_readNew 63 = .ok (.ireturn, 1) := by decide +kernel
theorem dX12_readNew_64 : decode cX12_readNew 64 = .ok (.aload_n 0, 1) := by decide +kernel
theorem dX12_readNew_65 : decode cX12_readNew 65 = .ok (.getfield 120, 3) := by decide +kernel
theorem dX12_readNew_68 : decode cX12_readNew 68 = .ok (.iload_n 1, 1) := by decide +kernel
theorem dX12_readNew_69 : decode cX12_readNew 69 = .ok (.aload_n 0, 1) := by decide +kernel
theorem dX12_readNew_70 : decode cX12_readNew 70 = .ok (.getfield 43, 3) := by decide +kernel
theorem dX12_readNew_73 : decode cX12_readNew 73 = .ok (.lastore, 1) := by decide +kernel
theorem dX12_readNew_74 : decode cX12_readNew 74 = .ok (.aload_n 0, 1) := by decide +kernel
theorem dX12_readNew_75 : decode cX12_readNew 75 = .ok (.invokevirtual 82, 3) := by decide +kernel
theorem dX12_readNew_78 : decode cX12_readNew 78 = .ok (.iconst 1, 1) := by decide +kernel
theorem dX12_readNew_79 : decode cX12_readNew 79 = .ok (.ireturn, 1) := by decide +kernel
theorem dX12_readFirst_0 : decode cX12_readFirst 0 = .ok (.aload_n 0, 1) := by decide +kernel
theorem dX12_readFirst_1 : decode cX12_readFirst 1 = .ok (.getfield 101, 3) := by decide +kernel
theorem dX12_readFirst_4 : decode cX12_readFirst 4 = .ok (.iload_n 1, 1) := by decide +kernel
theorem dX12_readFirst_5 : decode cX12_readFirst 5 = .ok (.iaload, 1) := by decide +kernel
theorem dX12_readFirst_6 : decode cX12_readFirst 6 = .ok (.iload_n 2, 1) := by decide +kernel
theorem dX12_readFirst_7 : decode cX12_readFirst 7 = .ok (.if_icmp .ne 9, 3) := by decide +kernel
theorem dX12_readFirst_10 : decode cX12_readFirst 10 = .ok (.aload_n 0, 1) := by decide +kernel
theorem dX12_readFirst_11 : decode cX12_readFirst 11 = .ok (.iconst 4, 1) := by decide +kernel
theorem dX12_readFirst_12 : decode cX12_readFirst 12 = .ok (.invokevirtual 72, 3) := by decide +kernel
theorem dX12_readFirst_15 : decode cX12_readFirst 15 = .ok (.ireturn, 1) := by decide +kernel
theorem dX12_readFirst_16 : decode cX12_readFirst 16 = .ok (.aload_n 0, 1) := by decide +kernel
theorem dX12_readFirst_17 : decode cX12_readFirst 17 = .ok (.invokevirtual 82, 3) := by decide +kernel
theorem dX12_readFirst_20 : decode cX12_readFirst 20 = .ok (.iconst 1, 1) := by decide +kernel
theorem dX12_readFirst_21 : decode cX12_readFirst 21 = .ok (.ireturn, 1) := by decide +kernel
theorem dX12_noted_0 : decode cX12_noted 0 = .ok (.iload_n 2, 1) := by decide +kernel
theorem dX12_noted_1 : decode cX12_noted 1 = .ok (.ifCond .eq 13, 3) := by decide +kernel
theorem dX12_noted_4 : decode cX12_noted 4 = .ok (.aload_n 0, 1) := by decide +kernel
theorem dX12_noted_5 : decode cX12_noted 5 = .ok (.getfield 101, 3) := by decide +kernel
theorem dX12_noted_8 : decode cX12_noted 8 = .ok (.iload_n 1, 1) := by decide +kernel
theorem dX12_noted_9 : decode cX12_noted 9 = .ok (.aload_n 0, 1) := by decide +kernel
theorem dX12_noted_10 : decode cX12_noted 10 = .ok (.getfield 79, 3) := by decide +kernel
theorem dX12_noted_13 : decode cX12_noted 13 = .ok (.iastore, 1) := by decide +kernel
theorem dX12_noted_14 : decode cX12_noted 14 = .ok (.iload_n 2, 1) := by decide +kernel
theorem dX12_noted_15 : decode cX12_noted 15 = .ok (.ireturn, 1) := by decide +kernel
theorem dX12_isFresh_0 : decode cX12_isFresh 0 = .ok (.aload_n 0, 1) := by decide +kernel
theorem dX12_isFresh_1 : decode cX12_isFresh 1 = .ok (.getfield 130, 3) := by decide +kernel
theorem dX12_isFresh_4 : decode cX12_isFresh 4 = .ok (.iload_n 1, 1) := by decide +kernel
theorem dX12_isFresh_5 : decode cX12_isFresh 5 = .ok (.baload, 1) := by decide +kernel
theorem dX12_isFresh_6 : decode cX12_isFresh 6 = .ok (.ifCond .ne 12, 3) := by decide +kernel
theorem dX12_isFresh_9 : decode cX12_isFresh 9 = .ok (.aload_n 0, 1) := by decide +kernel
theorem dX12_isFresh_10 : decode cX12_isFresh 10 = .ok (.getfield 101, 3) := by decide +kernel
theorem dX12_isFresh_13 : decode cX12_isFresh 13 = .ok (.iconst 0, 1) := by decide +kernel
theorem dX12_isFresh_14 : decode cX12_isFresh 14 = .ok (.iaload, 1) := by decide +kernel
theorem dX12_isFresh_15 : decode cX12_isFresh 15 = .ok (.ifCond .le 9, 3) := by decide +kernel
theorem dX12_isFresh_18 : decode cX12_isFresh 18 = .ok (.aload_n 0, 1) := by decide +kernel
theorem dX12_isFresh_19 : decode cX12_isFresh 19 = .ok (.iconst 3, 1) := by decide +kernel
theorem dX12_isFresh_20 : decode cX12_isFresh 20 = .ok (.invokevirtual 72, 3) := by decide +kernel
theorem dX12_isFresh_23 : decode cX12_isFresh 23 = .ok (.ireturn, 1) := by decide +kernel
theorem dX12_isFresh_24 : decode cX12_isFresh 24 = .ok (.aload_n 0, 1) := by decide +kernel
theorem dX12_isFresh_25 : decode cX12_isFresh 25 = .ok (.getfield 130, 3) := by decide +kernel
theorem dX12_isFresh_28 : decode cX12_isFresh 28 = .ok (.iload_n 1, 1) := by decide +kernel
theorem dX12_isFresh_29 : decode cX12_isFresh 29 = .ok (.iconst 1, 1) := by decide +kernel
theorem dX12_isFresh_30 : decode cX12_isFresh 30 = .ok (.bastore, 1) := by decide +kernel
theorem dX12_isFresh_31 : decode cX12_isFresh 31 = .ok (.aload_n 0, 1) := by decide +kernel
theorem dX12_isFresh_32 : decode cX12_isFresh 32 = .ok (.invokevirtual 82, 3) := by decide +kernel
theorem dX12_isFresh_35 : decode cX12_isFresh 35 = .ok (.iconst 1, 1) := by decide +kernel
theorem dX12_isFresh_36 : decode cX12_isFresh 36 = .ok (.ireturn, 1) := by decide +kernel
theorem dX12_readRule_0 : decode cX12_readRule 0 = .ok (.aload_n 0, 1) := by decide +kernel
theorem dX12_readRule_1 : decode cX12_readRule 1 = .ok (.iconst 2, 1) := by decide +kernel
theorem dX12_readRule_2 : decode cX12_readRule 2 = .ok (.invokevirtual 210, 3) := by decide +kernel
theorem dX12_readRule_5 : decode cX12_readRule 5 = .ok (.ifCond .ne 5, 3) := by decide +kernel
theorem dX12_readRule_8 : decode cX12_readRule 8 = .ok (.iconst 0, 1) := by decide +kernel
theorem dX12_readRule_9 : decode cX12_readRule 9 = .ok (.ireturn, 1) := by decide +kernel
theorem dX12_readRule_10 : decode cX12_readRule 10 = .ok (.iconst (-1), 1) := by decide +kernel
theorem dX12_readRule_11 : decode cX12_readRule 11 = .ok (.istore_n 1, 1) := by decide +kernel
theorem dX12_readRule_12 : decode cX12_readRule 12 = .ok (.iconst 3, 1) := by decide +kernel
theorem dX12_readRule_13 : decode cX12_readRule 13 = .ok (.istore_n 2, 1) := by decide +kernel
theorem dX12_readRule_14 : decode cX12_readRule 14 = .ok (.iload_n 2, 1) := by decide +kernel
theorem dX12_readRule_15 : decode cX12_readRule 15 = .ok (.iconst 5, 1) := by decide +kernel
theorem dX12_readRule_16 : decode cX12_readRule 16 = .ok (.if_icmp .gt 21, 3) := by decide +kernel
theorem dX12_readRule_19 : decode cX12_readRule 19 = .ok (.aload_n 0, 1) := by decide +kernel
theorem dX12_readRule_20 : decode cX12_readRule 20 = .ok (.iload_n 2, 1) := by decide +kernel
theorem dX12_readRule_21 : decode cX12_readRule 21 = .ok (.invokevirtual 213, 3) := by decide +kernel
theorem dX12_readRule_24 : decode cX12_readRule 24 = .ok (.ifCond .eq 7, 3) := by decide +kernel
theorem dX12_readRule_27 : decode cX12_readRule 27 = .ok (.iload_n 2, 1) := by decide +kernel
theorem dX12_readRule_28 : decode cX12_readRule 28 = .ok (.iconst 3, 1) := by decide +kernel
theorem dX12_readRule_29 : decode cX12_readRule 29 = .ok (.isub, 1) := by decide +kernel
theorem dX12_readRule_30 : decode cX12_readRule 30 = .ok (.istore_n 1, 1) := by decide +kernel
theorem dX12_readRule_31 : decode cX12_readRule 31 = .ok (.iinc 2 1, 3) := by decide +kernel
theorem dX12_readRule_34 : decode cX12_readRule 34 = .ok (.goto (-20), 3) := by decide +kernel
theorem dX12_readRule_37 : decode cX12_readRule 37 = .ok (.iload_n 1, 1) := by decide +kernel
theorem dX12_readRule_38 : decode cX12_readRule 38 = .ok (.iconst (-1), 1) := by decide +kernel
theorem dX12_readRule_39 : decode cX12_readRule 39 = .ok (.if_icmp .ne 9, 3) := by decide +kernel
theorem dX12_readRule_42 : decode cX12_readRule 42 = .ok (.aload_n 0, 1) := by decide +kernel
theorem dX12_readRule_43 : decode cX12_readRule 43 = .ok (.iconst 1, 1) := by decide +kernel
theorem dX12_readRule_44 : decode cX12_readRule 44 = .ok (.invokevirtual 72, 3) := by decide +kernel
theorem dX12_readRule_47 : decode cX12_readRule 47 = .ok (.ireturn, 1) := by decide +kernel
theorem dX12_readRule_48 : decode cX12_readRule 48 = .ok (.aload_n 0, 1) := by decide +kernel
theorem dX12_readRule_49 : decode cX12_readRule 49 = .ok (.getfield 101, 3) := by decide +kernel
theorem dX12_readRule_52 : decode cX12_readRule 52 = .ok (.iconst 4, 1) := by decide +kernel
theorem dX12_readRule_53 : decode cX12_readRule 53 = .ok (.iload_n 1, 1) := by decide +kernel
theorem dX12_readRule_54 : decode cX12_readRule 54 = .ok (.iastore, 1) := by decide +kernel
theorem dX12_readRule_55 : decode cX12_readRule 55 = .ok (.aload_n 0, 1) := by decide +kernel
theorem dX12_readRule_56 : decode cX12_readRule 56 = .ok (.invokevirtual 82, 3) := by decide +kernel
theorem dX12_readRule_59 : decode cX12_readRule 59 = .ok (.iconst 1, 1) := by decide +kernel
theorem dX12_readRule_60 : decode cX12_readRule 60 = .ok (.ireturn, 1) := by decide +kernel
theorem dX12_readKey_0 : decode cX12_readKey 0 = .ok (.aload_n 0, 1) := by decide +kernel
theorem dX12_readKey_1 : decode cX12_readKey 1 = .ok (.iconst 0, 1) := by decide +kernel
theorem dX12_readKey_2 : decode cX12_readKey 2 = .ok (.bipush 24, 2) := by decide +kernel
theorem dX12_readKey_4 : decode cX12_readKey 4 = .ok (.invokevirtual 216, 3) := by decide +kernel
theorem dX12_readKey_7 : decode cX12_readKey 7 = .ok (.ifCond .eq 16, 3) := by decide +kernel
theorem dX12_readKey_10 : decode cX12_readKey 10 = .ok (.aload_n 0, 1) := by decide +kernel
theorem dX12_readKey_11 : decode cX12_readKey 11 = .ok (.aload_n 0, 1) := by decide +kernel
theorem dX12_readKey_12 : decode cX12_readKey 12 = .ok (.getfield 101, 3) := by decide +kernel
theorem dX12_readKey_15 : decode cX12_readKey 15 = .ok (.iconst 0, 1) := by decide +kernel
theorem dX12_readKey_16 : decode cX12_readKey 16 = .ok (.iaload, 1) := by decide +kernel
theorem dX12_readKey_17 : decode cX12_readKey 17 = .ok (.invokevirtual 220, 3) := by decide +kernel
theorem dX12_readKey_20 : decode cX12_readKey 20 = .ok (.ifCond .ne 5, 3) := by decide +kernel
theorem dX12_readKey_23 : decode cX12_readKey 23 = .ok (.iconst 0, 1) := by decide +kernel
theorem dX12_readKey_24 : decode cX12_readKey 24 = .ok (.ireturn, 1) := by decide +kernel
theorem dX12_readKey_25 : decode cX12_readKey 25 = .ok (.aload_n 0, 1) := by decide +kernel
theorem dX12_readKey_26 : decode cX12_readKey 26 = .ok (.getfield 101, 3) := by decide +kernel
theorem dX12_readKey_29 : decode cX12_readKey 29 = .ok (.iconst 0, 1) := by decide +kernel
theorem dX12_readKey_30 : decode cX12_readKey 30 = .ok (.dup2, 1) := by decide +kernel
theorem dX12_readKey_31 : decode cX12_readKey 31 = .ok (.iaload, 1) := by decide +kernel
theorem dX12_readKey_32 : decode cX12_readKey 32 = .ok (.iconst 1, 1) := by decide +kernel
theorem dX12_readKey_33 : decode cX12_readKey 33 = .ok (.iadd, 1) := by decide +kernel
theorem dX12_readKey_34 : decode cX12_readKey 34 = .ok (.iastore, 1) := by decide +kernel
theorem dX12_readKey_35 : decode cX12_readKey 35 = .ok (.iconst 1, 1) := by decide +kernel
theorem dX12_readKey_36 : decode cX12_readKey 36 = .ok (.ireturn, 1) := by decide +kernel
theorem dX12_readPeer_0 : decode cX12_readPeer 0 = .ok (.aload_n 0, 1) := by decide +kernel
theorem dX12_readPeer_1 : decode cX12_readPeer 1 = .ok (.iconst 1, 1) := by decide +kernel
theorem dX12_readPeer_2 : decode cX12_readPeer 2 = .ok (.iconst 4, 1) := by decide +kernel
theorem dX12_readPeer_3 : decode cX12_readPeer 3 = .ok (.invokevirtual 216, 3) := by decide +kernel
theorem dX12_readPeer_6 : decode cX12_readPeer 6 = .ok (.ifCond .eq 19, 3) := by decide +kernel
theorem dX12_readPeer_9 : decode cX12_readPeer 9 = .ok (.aload_n 0, 1) := by decide +kernel
theorem dX12_readPeer_10 : decode cX12_readPeer 10 = .ok (.bipush 24, 2) := by decide +kernel
theorem dX12_readPeer_12 : decode cX12_readPeer 12 = .ok (.aload_n 0, 1) := by decide +kernel
theorem dX12_readPeer_13 : decode cX12_readPeer 13 = .ok (.getfield 101, 3) := by decide +kernel
theorem dX12_readPeer_16 : decode cX12_readPeer 16 = .ok (.iconst 1, 1) := by decide +kernel
theorem dX12_readPeer_17 : decode cX12_readPeer 17 = .ok (.iaload, 1) := by decide +kernel
theorem dX12_readPeer_18 : decode cX12_readPeer 18 = .ok (.iadd, 1) := by decide +kernel
theorem dX12_readPeer_19 : decode cX12_readPeer 19 = .ok (.invokevirtual 220, 3) := by decide +kernel
theorem dX12_readPeer_22 : decode cX12_readPeer 22 = .ok (.ifCond .ne 5, 3) := by decide +kernel
theorem dX12_readPeer_25 : decode cX12_readPeer 25 = .ok (.iconst 0, 1) := by decide +kernel
theorem dX12_readPeer_26 : decode cX12_readPeer 26 = .ok (.ireturn, 1) := by decide +kernel
theorem dX12_readPeer_27 : decode cX12_readPeer 27 = .ok (.aload_n 0, 1) := by decide +kernel
theorem dX12_readPeer_28 : decode cX12_readPeer 28 = .ok (.getfield 101, 3) := by decide +kernel
theorem dX12_readPeer_31 : decode cX12_readPeer 31 = .ok (.iconst 1, 1) := by decide +kernel
theorem dX12_readPeer_32 : decode cX12_readPeer 32 = .ok (.dup2, 1) := by decide +kernel
theorem dX12_readPeer_33 : decode cX12_readPeer 33 = .ok (.iaload, 1) := by decide +kernel
theorem dX12_readPeer_34 : decode cX12_readPeer 34 = .ok (.iconst 1, 1) := by decide +kernel
theorem dX12_readPeer_35 : decode cX12_readPeer 35 = .ok (.iadd, 1) := by decide +kernel
theorem dX12_readPeer_36 : decode cX12_readPeer 36 = .ok (.iastore, 1) := by decide +kernel
theorem dX12_readPeer_37 : decode cX12_readPeer 37 = .ok (.iconst 1, 1) := by decide +kernel
theorem dX12_readPeer_38 : decode cX12_readPeer 38 = .ok (.ireturn, 1) := by decide +kernel
theorem dX12_isHere_0 : decode cX12_isHere 0 = .ok (.aload_n 0, 1) := by decide +kernel
theorem dX12_isHere_1 : decode cX12_isHere 1 = .ok (.invokevirtual 202, 3) := by decide +kernel
theorem dX12_isHere_4 : decode cX12_isHere 4 = .ok (.ifCond .ne 9, 3) := by decide +kernel
theorem dX12_isHere_7 : decode cX12_isHere 7 = .ok (.aload_n 0, 1) := by decide +kernel
theorem dX12_isHere_8 : decode cX12_isHere 8 = .ok (.iconst 1, 1) := by decide +kernel
theorem dX12_isHere_9 : decode cX12_isHere 9 = .ok (.invokevirtual 72, 3) := by decide +kernel
theorem dX12_isHere_12 : decode cX12_isHere 12 = .ok (.ireturn, 1) := by decide +kernel
theorem dX12_isHere_13 : decode cX12_isHere 13 = .ok (.aload_n 0, 1) := by decide +kernel
theorem dX12_isHere_14 : decode cX12_isHere 14 = .ok (.aload_n 0, 1) := by decide +kernel
theorem dX12_isHere_15 : decode cX12_isHere 15 = .ok (.getfield 120, 3) := by decide +kernel
theorem dX12_isHere_18 : decode cX12_isHere 18 = .ok (.iload_n 1, 1) := by decide +kernel
theorem dX12_isHere_19 : decode cX12_isHere 19 = .ok (.iload_n 2, 1) := by decide +kernel
theorem dX12_isHere_20 : decode cX12_isHere 20 = .ok (.aload_n 0, 1) := by decide +kernel
theorem dX12_isHere_21 : decode cX12_isHere 21 = .ok (.getfield 43, 3) := by decide +kernel
theorem dX12_isHere_24 : decode cX12_isHere 24 = .ok (.invokestatic 206, 3) := by decide +kernel
theorem dX12_isHere_27 : decode cX12_isHere 27 = .ok (.putfield 79, 3) := by decide +kernel
theorem dX12_isHere_30 : decode cX12_isHere 30 = .ok (.aload_n 0, 1) := by decide +kernel
theorem dX12_isHere_31 : decode cX12_isHere 31 = .ok (.getfield 79, 3) := by decide +kernel
theorem dX12_isHere_34 : decode cX12_isHere 34 = .ok (.iconst (-1), 1) := by decide +kernel
theorem dX12_isHere_35 : decode cX12_isHere 35 = .ok (.if_icmp .ne 11, 3) := by decide +kernel
theorem dX12_isHere_38 : decode cX12_isHere 38 = .ok (.aload_n 0, 1) := by decide +kernel
theorem dX12_isHere_39 : decode cX12_isHere 39 = .ok (.iconst 3, 1) := by decide +kernel
theorem dX12_isHere_40 : decode cX12_isHere 40 = .ok (.invokevirtual 72, 3) := by decide +kernel
theorem dX12_isHere_43 : decode cX12_isHere 43 = .ok (.ifCond .eq 7, 3) := by decide +kernel
theorem dX12_isHere_46 : decode cX12_isHere 46 = .ok (.iconst 1, 1) := by decide +kernel
theorem dX12_isHere_47 : decode cX12_isHere 47 = .ok (.goto 4, 3) := by decide +kernel
theorem dX12_isHere_50 : decode cX12_isHere 50 = .ok (.iconst 0, 1) := by decide +kernel
theorem dX12_isHere_51 : decode cX12_isHere 51 = .ok (.ireturn, 1) := by decide +kernel
theorem dX12_readHas_0 : decode cX12_readHas 0 = .ok (.aload_n 0, 1) := by decide +kernel
theorem dX12_readHas_1 : decode cX12_readHas 1 = .ok (.invokevirtual 82, 3) := by decide +kernel
theorem dX12_readHas_4 : decode cX12_readHas 4 = .ok (.aload_n 0, 1) := by decide +kernel
theorem dX12_readHas_5 : decode cX12_readHas 5 = .ok (.bipush 24, 2) := by decide +kernel
theorem dX12_readHas_7 : decode cX12_readHas 7 = .ok (.aload_n 0, 1) := by decide +kernel
theorem dX12_readHas_8 : decode cX12_readHas 8 = .ok (.getfield 101, 3) := by decide +kernel
theorem dX12_readHas_11 : decode cX12_readHas 11 = .ok (.iconst 1, 1) := by decide +kernel
theorem dX12_readHas_12 : decode cX12_readHas 12 = .ok (.iaload, 1) := by decide +kernel
theorem dX12_readHas_13 : decode cX12_readHas 13 = .ok (.invokevirtual 223, 3) := by decide +kernel
theorem dX12_readHas_16 : decode cX12_readHas 16 = .ok (.ifCond .ne 5, 3) := by decide +kernel
theorem dX12_readHas_19 : decode cX12_readHas 19 = .ok (.iconst 0, 1) := by decide +kernel
theorem dX12_readHas_20 : decode cX12_readHas 20 = .ok (.ireturn, 1) := by decide +kernel
theorem dX12_readHas_21 : decode cX12_readHas 21 = .ok (.bipush 24, 2) := by decide +kernel
theorem dX12_readHas_23 : decode cX12_readHas 23 = .ok (.aload_n 0, 1) := by decide +kernel
theorem dX12_readHas_24 : decode cX12_readHas 24 = .ok (.getfield 79, 3) := by decide +kernel
theorem dX12_readHas_27 : decode cX12_readHas 27 = .ok (.imul, 1) := by decide +kernel
theorem dX12_readHas_28 : decode cX12_readHas 28 = .ok (.istore_n 1, 1) := by decide +kernel
theorem dX12_readHas_29 : decode cX12_readHas 29 = .ok (.aload_n 0, 1) := by decide +kernel
theorem dX12_readHas_30 : decode cX12_readHas 30 = .ok (.invokevirtual 82, 3) := by decide +kernel
theorem dX12_readHas_33 : decode cX12_readHas 33 = .ok (.aload_n 0, 1) := by decide +kernel
theorem dX12_readHas_34 : decode cX12_readHas 34 = .ok (.iconst 0, 1) := by decide +kernel
theorem dX12_readHas_35 : decode cX12_readHas 35 = .ok (.aload_n 0, 1) := by decide +kernel
theorem dX12_readHas_36 : decode cX12_readHas 36 = .ok (.getfield 101, 3) := by decide +kernel
theorem dX12_readHas_39 : decode cX12_readHas 39 = .ok (.iconst 0, 1) := by decide +kernel
theorem dX12_readHas_40 : decode cX12_readHas 40 = .ok (.iaload, 1) := by decide +kernel
theorem dX12_readHas_41 : decode cX12_readHas 41 = .ok (.invokevirtual 223, 3) := by decide +kernel
theorem dX12_readHas_44 : decode cX12_readHas 44 = .ok (.ifCond .ne 5, 3) := by decide +kernel
theorem dX12_readHas_47 : decode cX12_readHas 47 = .ok (.iconst 0, 1) := by decide +kernel
theorem dX12_readHas_48 : decode cX12_readHas 48 = .ok (.ireturn, 1) := by decide +kernel
theorem dX12_readHas_49 : decode cX12_readHas 49 = .ok (.iload_n 1, 1) := by decide +kernel
theorem dX12_readHas_50 : decode cX12_readHas 50 = .ok (.aload_n 0, 1) := by decide +kernel
theorem dX12_readHas_51 : decode cX12_readHas 51 = .ok (.getfield 79, 3) := by decide +kernel
theorem dX12_readHas_54 : decode cX12_readHas 54 = .ok (.iadd, 1) := by decide +kernel
theorem dX12_readHas_55 : decode cX12_readHas 55 = .ok (.istore_n 1, 1) := by decide +kernel
theorem dX12_readHas_56 : decode cX12_readHas 56 = .ok (.aload_n 0, 1) := by decide +kernel
theorem dX12_readHas_57 : decode cX12_readHas 57 = .ok (.getfield 101, 3) := by decide +kernel
theorem dX12_readHas_60 : decode cX12_readHas 60 = .ok (.bipush 106, 2) := by decide +kernel
theorem dX12_readHas_62 : decode cX12_readHas 62 = .ok (.iload_n 1, 1) := by decide +kernel
theorem dX12_readHas_63 : decode cX12_readHas 63 = .ok (.iadd, 1) := by decide +kernel
theorem dX12_readHas_64 : decode cX12_readHas 64 = .ok (.iaload, 1) := by decide +kernel
theorem dX12_readHas_65 : decode cX12_readHas 65 = .ok (.ifCond .le 9, 3) := by decide +kernel
theorem dX12_readHas_68 : decode cX12_readHas 68 = .ok (.aload_n 0, 1) := by decide +kernel
theorem dX12_readHas_69 : decode cX12_readHas 69 = .ok (.iconst 3, 1) := by decide +kernel
theorem dX12_readHas_70 : decode cX12_readHas 70 = .ok (.invokevirtual 72, 3) := by decide +kernel
theorem dX12_readHas_73 : decode cX12_readHas 73 = .ok (.ireturn, 1) := by decide +kernel
theorem dX12_readHas_74 : decode cX12_readHas 74 = .ok (.aload_n 0, 1) := by decide +kernel
theorem dX12_readHas_75 : decode cX12_readHas 75 = .ok (.invokevirtual 82, 3) := by decide +kernel
theorem dX12_readHas_78 : decode cX12_readHas 78 = .ok (.aload_n 0, 1) := by decide +kernel
theorem dX12_readHas_79 : decode cX12_readHas 79 = .ok (.bipush 10, 2) := by decide +kernel
theorem dX12_readHas_81 : decode cX12_readHas 81 = .ok (.iload_n 1, 1) := by decide +kernel
theorem dX12_readHas_82 : decode cX12_readHas 82 = .ok (.iadd, 1) := by decide +kernel
theorem dX12_readHas_83 : decode cX12_readHas 83 = .ok (.aload_n 0, 1) := by decide +kernel
theorem dX12_readHas_84 : decode cX12_readHas 84 = .ok (.iconst 0, 1) := by decide +kernel
theorem dX12_readHas_85 : decode cX12_readHas 85 = .ok (.sipush 999, 3) := by decide +kernel
theorem dX12_readHas_88 : decode cX12_readHas 88 = .ok (.invokevirtual 226, 3) := by decide +kernel
theorem dX12_readHas_91 : decode cX12_readHas 91 = .ok (.invokevirtual 229, 3) := by decide +kernel
theorem dX12_readHas_94 : decode cX12_readHas 94 = .ok (.ifCond .ne 5, 3) := by decide +kernel
theorem dX12_readHas_97 : decode cX12_readHas 97 = .ok (.iconst 0, 1) := by decide +kernel
theorem dX12_readHas_98 : decode cX12_readHas 98 = .ok (.ireturn, 1) := by decide +kernel
theorem dX12_readHas_99 : decode cX12_readHas 99 = .ok (.aload_n 0, 1) := by decide +kernel
theorem dX12_readHas_100 : decode cX12_readHas 100 = .ok (.getfield 101, 3) := by decide +kernel
theorem dX12_readHas_103 : decode cX12_readHas 103 = .ok (.iconst 5, 1) := by decide +kernel
theorem dX12_readHas_104 : decode cX12_readHas 104 = .ok (.dup2, 1) := by decide +kernel
theorem dX12_readHas_105 : decode cX12_readHas 105 = .ok (.iaload, 1) := by decide +kernel
theorem dX12_readHas_106 : decode cX12_readHas 106 = .ok (.iconst 1, 1) := by decide +kernel
theorem dX12_readHas_107 : decode cX12_readHas 107 = .ok (.iadd, 1) := by decide +kernel
theorem dX12_readHas_108 : decode cX12_readHas 108 = .ok (.iastore, 1) := by decide +kernel
theorem dX12_readHas_109 : decode cX12_readHas 109 = .ok (.aload_n 0, 1) := by decide +kernel
theorem dX12_readHas_110 : decode cX12_readHas 110 = .ok (.getfield 101, 3) := by decide +kernel
theorem dX12_readHas_113 : decode cX12_readHas 113 = .ok (.bipush 106, 2) := by decide +kernel
theorem dX12_readHas_115 : decode cX12_readHas 115 = .ok (.iload_n 1, 1) := by decide +kernel
theorem dX12_readHas_116 : decode cX12_readHas 116 = .ok (.iadd, 1) := by decide +kernel
theorem dX12_readHas_117 : decode cX12_readHas 117 = .ok (.aload_n 0, 1) := by decide +kernel
theorem dX12_readHas_118 : decode cX12_readHas 118 = .ok (.getfield 101, 3) := by decide +kernel
theorem dX12_readHas_121 : decode cX12_readHas 121 = .ok (.iconst 5, 1) := by decide +kernel
theorem dX12_readHas_122 : decode cX12_readHas 122 = .ok (.iaload, 1) := by decide +kernel
theorem dX12_readHas_123 : decode cX12_readHas 123 = .ok (.iastore, 1) := by decide +kernel
theorem dX12_readHas_124 : decode cX12_readHas 124 = .ok (.iconst 1, 1) := by decide +kernel
theorem dX12_readHas_125 : decode cX12_readHas 125 = .ok (.ireturn, 1) := by decide +kernel
theorem dX12_readCut_0 : decode cX12_readCut 0 = .ok (.aload_n 0, 1) := by decide +kernel
theorem dX12_readCut_1 : decode cX12_readCut 1 = .ok (.invokevirtual 82, 3) := by decide +kernel
theorem dX12_readCut_4 : decode cX12_readCut 4 = .ok (.aload_n 0, 1) := by decide +kernel
theorem dX12_readCut_5 : decode cX12_readCut 5 = .ok (.bipush 24, 2) := by decide +kernel
theorem dX12_readCut_7 : decode cX12_readCut 7 = .ok (.aload_n 0, 1) := by decide +kernel
theorem dX12_readCut_8 : decode cX12_readCut 8 = .ok (.getfield 101, 3) := by decide +kernel
theorem dX12_readCut_11 : decode cX12_readCut 11 = .ok (.iconst 1, 1) := by decide +kernel
theorem dX12_readCut_12 : decode cX12_readCut 12 = .ok (.iaload, 1) := by decide +kernel
theorem dX12_readCut_13 : decode cX12_readCut 13 = .ok (.invokevirtual 223, 3) := by decide +kernel
theorem dX12_readCut_16 : decode cX12_readCut 16 = .ok (.ifCond .ne 5, 3) := by decide +kernel
theorem dX12_readCut_19 : decode cX12_readCut 19 = .ok (.iconst 0, 1) := by decide +kernel
theorem dX12_readCut_20 : decode cX12_readCut 20 = .ok (.ireturn, 1) := by decide +kernel
theorem dX12_readCut_21 : decode cX12_readCut 21 = .ok (.aload_n 0, 1) := by decide +kernel
theorem dX12_readCut_22 : decode cX12_readCut 22 = .ok (.getfield 79, 3) := by decide +kernel
theorem dX12_readCut_25 : decode cX12_readCut 25 = .ok (.istore_n 1, 1) := by decide +kernel
theorem dX12_readCut_26 : decode cX12_readCut 26 = .ok (.aload_n 0, 1) := by decide +kernel
theorem dX12_readCut_27 : decode cX12_readCut 27 = .ok (.invokevirtual 82, 3) := by decide +kernel
theorem dX12_readCut_30 : decode cX12_readCut 30 = .ok (.aload_n 0, 1) := by decide +kernel
theorem dX12_readCut_31 : decode cX12_readCut 31 = .ok (.bipush 24, 2) := by decide +kernel
theorem dX12_readCut_33 : decode cX12_readCut 33 = .ok (.aload_n 0, 1) := by decide +kernel
theorem dX12_readCut_34 : decode cX12_readCut 34 = .ok (.getfield 101, 3) := by decide +kernel
theorem dX12_readCut_37 : decode cX12_readCut 37 = .ok (.iconst 1, 1) := by decide +kernel
theorem dX12_readCut_38 : decode cX12_readCut 38 = .ok (.iaload, 1) := by decide +kernel
theorem dX12_readCut_39 : decode cX12_readCut 39 = .ok (.invokevirtual 223, 3) := by decide +kernel
theorem dX12_readCut_42 : decode cX12_readCut 42 = .ok (.ifCond .ne 5, 3) := by decide +kernel
theorem dX12_readCut_45 : decode cX12_readCut 45 = .ok (.iconst 0, 1) := by decide +kernel
theorem dX12_readCut_46 : decode cX12_readCut 46 = .ok (.ireturn, 1) := by decide +kernel
theorem dX12_readCut_47 : decode cX12_readCut 47 = .ok (.aload_n 0, 1) := by decide +kernel
theorem dX12_readCut_48 : decode cX12_readCut 48 = .ok (.getfield 79, 3) := by decide +kernel
theorem dX12_readCut_51 : decode cX12_readCut 51 = .ok (.iload_n 1, 1) := by decide +kernel
theorem dX12_readCut_52 : decode cX12_readCut 52 = .ok (.if_icmp .eq 22, 3) := by decide +kernel
theorem dX12_readCut_55 : decode cX12_readCut 55 = .ok (.aload_n 0, 1) := by decide +kernel
theorem dX12_readCut_56 : decode cX12_readCut 56 = .ok (.getfield 101, 3) := by decide +kernel
theorem dX12_readCut_59 : decode cX12_readCut 59 = .ok (.bipush 6, 2) := by decide +kernel
theorem dX12_readCut_61 : decode cX12_readCut 61 = .ok (.iload_n 1, 1) := by decide +kernel
theorem dX12_readCut_62 : decode cX12_readCut 62 = .ok (.iadd, 1) := by decide +kernel
theorem dX12_readCut_63 : decode cX12_readCut 63 = .ok (.iaload, 1) := by decide +kernel
theorem dX12_readCut_64 : decode cX12_readCut 64 = .ok (.aload_n 0, 1) := by decide +kernel
theorem dX12_readCut_65 : decode cX12_readCut 65 = .ok (.getfield 79, 3) := by decide +kernel
theorem dX12_readCut_68 : decode cX12_readCut 68 = .ok (.invokestatic 233, 3) := by decide +kernel
theorem dX12_readCut_71 : decode cX12_readCut 71 = .ok (.ifCond .eq 9, 3) := by decide +kernel
theorem dX12_readCut_74 : decode cX12_readCut 74 = .ok (.aload_n 0, 1) := by decide +kernel
theorem dX12_readCut_75 : decode cX12_readCut 75 = .ok (.iconst 3, 1) := by decide +kernel
theorem dX12_readCut_76 : decode cX12_readCut 76 = .ok (.invokevirtual 72, 3) := by decide +kernel
theorem dX12_readCut_79 : decode cX12_readCut 79 = .ok (.ireturn, 1) := by decide +kernel
theorem dX12_readCut_80 : decode cX12_readCut 80 = .ok (.aload_n 0, 1) := by decide +kernel
theorem dX12_readCut_81 : decode cX12_readCut 81 = .ok (.getfield 101, 3) := by decide +kernel
theorem dX12_readCut_84 : decode cX12_readCut 84 = .ok (.bipush 6, 2) := by decide +kernel
theorem dX12_readCut_86 : decode cX12_readCut 86 = .ok (.iload_n 1, 1) := by decide +kernel
theorem dX12_readCut_87 : decode cX12_readCut 87 = .ok (.iadd, 1) := by decide +kernel
theorem dX12_readCut_88 : decode cX12_readCut 88 = .ok (.dup2, 1) := by decide +kernel
theorem dX12_readCut_89 : decode cX12_readCut 89 = .ok (.iaload, 1) := by decide +kernel
theorem dX12_readCut_90 : decode cX12_readCut 90 = .ok (.iconst 1, 1) := by decide +kernel
theorem dX12_readCut_91 : decode cX12_readCut 91 = .ok (.aload_n 0, 1) := by decide +kernel
theorem dX12_readCut_92 : decode cX12_readCut 92 = .ok (.getfield 79, 3) := by decide +kernel
theorem dX12_readCut_95 : decode cX12_readCut 95 = .ok (.ishl, 1) := by decide +kernel
theorem dX12_readCut_96 : decode cX12_readCut 96 = .ok (.ior, 1) := by decide +kernel
theorem dX12_readCut_97 : decode cX12_readCut 97 = .ok (.iastore, 1) := by decide +kernel
theorem dX12_readCut_98 : decode cX12_readCut 98 = .ok (.aload_n 0, 1) := by decide +kernel
theorem dX12_readCut_99 : decode cX12_readCut 99 = .ok (.getfield 101, 3) := by decide +kernel
theorem dX12_readCut_102 : decode cX12_readCut 102 = .ok (.bipush 6, 2) := by decide +kernel
theorem dX12_readCut_104 : decode cX12_readCut 104 = .ok (.aload_n 0, 1) := by decide +kernel
theorem dX12_readCut_105 : decode cX12_readCut 105 = .ok (.getfield 79, 3) := by decide +kernel
theorem dX12_readCut_108 : decode cX12_readCut 108 = .ok (.iadd, 1) := by decide +kernel
theorem dX12_readCut_109 : decode cX12_readCut 109 = .ok (.dup2, 1) := by decide +kernel
theorem dX12_readCut_110 : decode cX12_readCut 110 = .ok (.iaload, 1) := by decide +kernel
theorem dX12_readCut_111 : decode cX12_readCut 111 = .ok (.iconst 1, 1) := by decide +kernel
theorem dX12_readCut_112 : decode cX12_readCut 112 = .ok (.iload_n 1, 1) := by decide +kernel
theorem dX12_readCut_113 : decode cX12_readCut 113 = .ok (.ishl, 1) := by decide +kernel
theorem dX12_readCut_114 : decode cX12_readCut 114 = .ok (.ior, 1) := by decide +kernel
theorem dX12_readCut_115 : decode cX12_readCut 115 = .ok (.iastore, 1) := by decide +kernel
theorem dX12_readCut_116 : decode cX12_readCut 116 = .ok (.aload_n 0, 1) := by decide +kernel
theorem dX12_readCut_117 : decode cX12_readCut 117 = .ok (.invokevirtual 82, 3) := by decide +kernel
theorem dX12_readCut_120 : decode cX12_readCut 120 = .ok (.iconst 1, 1) := by decide +kernel
theorem dX12_readCut_121 : decode cX12_readCut 121 = .ok (.ireturn, 1) := by decide +kernel
theorem dX12_readLine_0 : decode cX12_readLine 0 = .ok (.aload_n 0, 1) := by decide +kernel
theorem dX12_readLine_1 : decode cX12_readLine 1 = .ok (.iconst 0, 1) := by decide +kernel
theorem dX12_readLine_2 : decode cX12_readLine 2 = .ok (.invokevirtual 213, 3) := by decide +kernel
theorem dX12_readLine_5 : decode cX12_readLine 5 = .ok (.ifCond .eq 31, 3) := by decide +kernel
theorem dX12_readLine_8 : decode cX12_readLine 8 = .ok (.aload_n 0, 1) := by decide +kernel
theorem dX12_readLine_9 : decode cX12_readLine 9 = .ok (.iconst 0, 1) := by decide +kernel
theorem dX12_readLine_10 : decode cX12_readLine 10 = .ok (.invokevirtual 210, 3) := by decide +kernel
theorem dX12_readLine_13 : decode cX12_readLine 13 = .ok (.ifCond .eq 21, 3) := by decide +kernel
theorem dX12_readLine_16 : decode cX12_readLine 16 = .ok (.aload_n 0, 1) := by decide +kernel
theorem dX12_readLine_17 : decode cX12_readLine 17 = .ok (.iconst 2, 1) := by decide +kernel
theorem dX12_readLine_18 : decode cX12_readLine 18 = .ok (.aload_n 0, 1) := by decide +kernel
theorem dX12_readLine_19 : decode cX12_readLine 19 = .ok (.iconst 1, 1) := by decide +kernel
theorem dX12_readLine_20 : decode cX12_readLine 20 = .ok (.iconst 4, 1) := by decide +kernel
theorem dX12_readLine_21 : decode cX12_readLine 21 = .ok (.invokevirtual 226, 3) := by decide +kernel
theorem dX12_readLine_24 : decode cX12_readLine 24 = .ok (.invokevirtual 229, 3) := by decide +kernel
theorem dX12_readLine_27 : decode cX12_readLine 27 = .ok (.ifCond .eq 7, 3) := by decide +kernel
theorem dX12_readLine_30 : decode cX12_readLine 30 = .ok (.iconst 1, 1) := by decide +kernel
theorem dX12_readLine_31 : decode cX12_readLine 31 = .ok (.goto 4, 3) := by decide +kernel
theorem dX12_readLine_34 : decode cX12_readLine 34 = .ok (.iconst 0, 1) := by decide +kernel
theorem dX12_readLine_35 : decode cX12_readLine 35 = .ok (.ireturn, 1) := by decide +kernel
theorem dX12_readLine_36 : decode cX12_readLine 36 = .ok (.aload_n 0, 1) := by decide +kernel
theorem dX12_readLine_37 : decode cX12_readLine 37 = .ok (.iconst 1, 1) := by decide +kernel
theorem dX12_readLine_38 : decode cX12_readLine 38 = .ok (.invokevirtual 213, 3) := by decide +kernel
theorem dX12_readLine_41 : decode cX12_readLine 41 = .ok (.ifCond .eq 32, 3) := by decide +kernel
theorem dX12_readLine_44 : decode cX12_readLine 44 = .ok (.aload_n 0, 1) := by decide +kernel
theorem dX12_readLine_45 : decode cX12_readLine 45 = .ok (.iconst 1, 1) := by decide +kernel
theorem dX12_readLine_46 : decode cX12_readLine 46 = .ok (.invokevirtual 210, 3) := by decide +kernel
theorem dX12_readLine_49 : decode cX12_readLine 49 = .ok (.ifCond .eq 22, 3) := by decide +kernel
theorem dX12_readLine_52 : decode cX12_readLine 52 = .ok (.aload_n 0, 1) := by decide +kernel
theorem dX12_readLine_53 : decode cX12_readLine 53 = .ok (.iconst 3, 1) := by decide +kernel
theorem dX12_readLine_54 : decode cX12_readLine 54 = .ok (.aload_n 0, 1) := by decide +kernel
theorem dX12_readLine_55 : decode cX12_readLine 55 = .ok (.iconst 1, 1) := by decide +kernel
theorem dX12_readLine_56 : decode cX12_readLine 56 = .ok (.bipush 12, 2) := by decide +kernel
theorem dX12_readLine_58 : decode cX12_readLine 58 = .ok (.invokevirtual 226, 3) := by decide +kernel
theorem dX12_readLine_61 : decode cX12_readLine 61 = .ok (.invokevirtual 229, 3) := by decide +kernel
theorem dX12_readLine_64 : decode cX12_readLine 64 = .ok (.ifCond .eq 7, 3) := by decide +kernel
theorem dX12_readLine_67 : decode cX12_readLine 67 = .ok (.iconst 1, 1) := by decide +kernel
theorem dX12_readLine_68 : decode cX12_readLine 68 = .ok (.goto 4, 3) := by decide +kernel
theorem dX12_readLine_71 : decode cX12_readLine 71 = .ok (.iconst 0, 1) := by decide +kernel
theorem dX12_readLine_72 : decode cX12_readLine 72 = .ok (.ireturn, 1) := by decide +kernel
theorem dX12_readLine_73 : decode cX12_readLine 73 = .ok (.aload_n 0, 1) := by decide +kernel
theorem dX12_readLine_74 : decode cX12_readLine 74 = .ok (.iconst 2, 1) := by decide +kernel
theorem dX12_readLine_75 : decode cX12_readLine 75 = .ok (.invokevirtual 213, 3) := by decide +kernel
theorem dX12_readLine_78 : decode cX12_readLine 78 = .ok (.ifCond .eq 8, 3) := by decide +kernel
theorem dX12_readLine_81 : decode cX12_readLine 81 = .ok (.aload_n 0, 1) := by decide +kernel
theorem dX12_readLine_82 : decode cX12_readLine 82 = .ok (.invokevirtual 236, 3) := by decide +kernel
theorem dX12_readLine_85 : decode cX12_readLine 85 = .ok (.ireturn, 1) := by decide +kernel
theorem dX12_readLine_86 : decode cX12_readLine 86 = .ok (.aload_n 0, 1) := by decide +kernel
theorem dX12_readLine_87 : decode cX12_readLine 87 = .ok (.bipush 6, 2) := by decide +kernel
theorem dX12_readLine_89 : decode cX12_readLine 89 = .ok (.invokevirtual 213, 3) := by decide +kernel
theorem dX12_readLine_92 : decode cX12_readLine 92 = .ok (.ifCond .eq 8, 3) := by decide +kernel
theorem dX12_readLine_95 : decode cX12_readLine 95 = .ok (.aload_n 0, 1) := by decide +kernel
theorem dX12_readLine_96 : decode cX12_readLine 96 = .ok (.invokevirtual 239, 3) := by decide +kernel
theorem dX12_readLine_99 : decode cX12_readLine 99 = .ok (.ireturn, 1) := by decide +kernel
theorem dX12_readLine_100 : decode cX12_readLine 100 = .ok (.aload_n 0, 1) := by decide +kernel
theorem dX12_readLine_101 : decode cX12_readLine 101 = .ok (.bipush 7, 2) := by decide +kernel
theorem dX12_readLine_103 : decode cX12_readLine 103 = .ok (.invokevirtual 213, 3) := by decide +kernel
theorem dX12_readLine_106 : decode cX12_readLine 106 = .ok (.ifCond .eq 8, 3) := by decide +kernel
theorem dX12_readLine_109 : decode cX12_readLine 109 = .ok (.aload_n 0, 1) := by decide +kernel
theorem dX12_readLine_110 : decode cX12_readLine 110 = .ok (.invokevirtual 242, 3) := by decide +kernel
theorem dX12_readLine_113 : decode cX12_readLine 113 = .ok (.ireturn, 1) := by decide +kernel
theorem dX12_readLine_114 : decode cX12_readLine 114 = .ok (.aload_n 0, 1) := by decide +kernel
theorem dX12_readLine_115 : decode cX12_readLine 115 = .ok (.bipush 8, 2) := by decide +kernel
theorem dX12_readLine_117 : decode cX12_readLine 117 = .ok (.invokevirtual 213, 3) := by decide +kernel
theorem dX12_readLine_120 : decode cX12_readLine 120 = .ok (.ifCond .eq 8, 3) := by decide +kernel
theorem dX12_readLine_123 : decode cX12_readLine 123 = .ok (.aload_n 0, 1) := by decide +kernel
theorem dX12_readLine_124 : decode cX12_readLine 124 = .ok (.invokevirtual 245, 3) := by decide +kernel
theorem dX12_readLine_127 : decode cX12_readLine 127 = .ok (.ireturn, 1) := by decide +kernel
theorem dX12_readLine_128 : decode cX12_readLine 128 = .ok (.aload_n 0, 1) := by decide +kernel
theorem dX12_readLine_129 : decode cX12_readLine 129 = .ok (.bipush 12, 2) := by decide +kernel
theorem dX12_readLine_131 : decode cX12_readLine 131 = .ok (.invokevirtual 213, 3) := by decide +kernel
theorem dX12_readLine_134 : decode cX12_readLine 134 = .ok (.ifCond .eq 10, 3) := by decide +kernel
theorem dX12_readLine_137 : decode cX12_readLine 137 = .ok (.aload_n 0, 1) := by decide +kernel
theorem dX12_readLine_138 : decode cX12_readLine 138 = .ok (.invokevirtual 248, 3) := by decide +kernel
theorem dX12_readLine_141 : decode cX12_readLine 141 = .ok (.goto 8, 3) := by decide +kernel
theorem dX12_readLine_144 : decode cX12_readLine 144 = .ok (.aload_n 0, 1) := by decide +kernel
theorem dX12_readLine_145 : decode cX12_readLine 145 = .ok (.iconst 1, 1) := by decide +kernel
theorem dX12_readLine_146 : decode cX12_readLine 146 = .ok (.invokevirtual 72, 3) := by decide +kernel
theorem dX12_readLine_149 : decode cX12_readLine 149 = .ok (.ireturn, 1) := by decide +kernel
theorem dX12_cluster_0 : decode cX12_cluster 0 = .ok (.aload_n 0, 1) := by decide +kernel
theorem dX12_cluster_1 : decode cX12_cluster 1 = .ok (.sipush 900, 3) := by decide +kernel
theorem dX12_cluster_4 : decode cX12_cluster 4 = .ok (.invokevirtual 251, 3) := by decide +kernel
theorem dX12_cluster_7 : decode cX12_cluster 7 = .ok (.iconst 0, 1) := by decide +kernel
theorem dX12_cluster_8 : decode cX12_cluster 8 = .ok (.istore_n 1, 1) := by decide +kernel
theorem dX12_cluster_9 : decode cX12_cluster 9 = .ok (.iload_n 1, 1) := by decide +kernel
theorem dX12_cluster_10 : decode cX12_cluster 10 = .ok (.sipush 202, 3) := by decide +kernel
theorem dX12_cluster_13 : decode cX12_cluster 13 = .ok (.if_icmp .ge 16, 3) := by decide +kernel
theorem dX12_cluster_16 : decode cX12_cluster 16 = .ok (.aload_n 0, 1) := by decide +kernel
theorem dX12_cluster_17 : decode cX12_cluster 17 = .ok (.getfield 101, 3) := by decide +kernel
theorem dX12_cluster_20 : decode cX12_cluster 20 = .ok (.iload_n 1, 1) := by decide +kernel
theorem dX12_cluster_21 : decode cX12_cluster 21 = .ok (.iconst 0, 1) := by decide +kernel
theorem dX12_cluster_22 : decode cX12_cluster 22 = .ok (.iastore, 1) := by decide +kernel
theorem dX12_cluster_23 : decode cX12_cluster 23 = .ok (.iinc 1 1, 3) := by decide +kernel
theorem dX12_cluster_26 : decode cX12_cluster 26 = .ok (.goto (-17), 3) := by decide +kernel
theorem dX12_cluster_29 : decode cX12_cluster 29 = .ok (.iconst 0, 1) := by decide +kernel
theorem dX12_cluster_30 : decode cX12_cluster 30 = .ok (.istore_n 1, 1) := by decide +kernel
theorem dX12_cluster_31 : decode cX12_cluster 31 = .ok (.iload_n 1, 1) := by decide +kernel
theorem dX12_cluster_32 : decode cX12_cluster 32 = .ok (.iconst 3, 1) := by decide +kernel
theorem dX12_cluster_33 : decode cX12_cluster 33 = .ok (.if_icmp .ge 16, 3) := by decide +kernel
theorem dX12_cluster_36 : decode cX12_cluster 36 = .ok (.aload_n 0, 1) := by decide +kernel
theorem dX12_cluster_37 : decode cX12_cluster 37 = .ok (.getfield 130, 3) := by decide +kernel
theorem dX12_cluster_40 : decode cX12_cluster 40 = .ok (.iload_n 1, 1) := by decide +kernel
theorem dX12_cluster_41 : decode cX12_cluster 41 = .ok (.iconst 0, 1) := by decide +kernel
theorem dX12_cluster_42 : decode cX12_cluster 42 = .ok (.bastore, 1) := by decide +kernel
theorem dX12_cluster_43 : decode cX12_cluster 43 = .ok (.iinc 1 1, 3) := by decide +kernel
theorem dX12_cluster_46 : decode cX12_cluster 46 = .ok (.goto (-15), 3) := by decide +kernel
theorem dX12_cluster_49 : decode cX12_cluster 49 = .ok (.aload_n 0, 1) := by decide +kernel
theorem dX12_cluster_50 : decode cX12_cluster 50 = .ok (.getfield 101, 3) := by decide +kernel
theorem dX12_cluster_53 : decode cX12_cluster 53 = .ok (.iconst 2, 1) := by decide +kernel
theorem dX12_cluster_54 : decode cX12_cluster 54 = .ok (.iconst 2, 1) := by decide +kernel
theorem dX12_cluster_55 : decode cX12_cluster 55 = .ok (.iastore, 1) := by decide +kernel
theorem dX12_cluster_56 : decode cX12_cluster 56 = .ok (.aload_n 0, 1) := by decide +kernel
theorem dX12_cluster_57 : decode cX12_cluster 57 = .ok (.getfield 101, 3) := by decide +kernel
theorem dX12_cluster_60 : decode cX12_cluster 60 = .ok (.iconst 3, 1) := by decide +kernel
theorem dX12_cluster_61 : decode cX12_cluster 61 = .ok (.iconst 4, 1) := by decide +kernel
theorem dX12_cluster_62 : decode cX12_cluster 62 = .ok (.iastore, 1) := by decide +kernel
theorem dX12_cluster_63 : decode cX12_cluster 63 = .ok (.iconst 0, 1) := by decide +kernel
theorem dX12_cluster_64 : decode cX12_cluster 64 = .ok (.istore_n 1, 1) := by decide +kernel
theorem dX12_cluster_65 : decode cX12_cluster 65 = .ok (.aload_n 0, 1) := by decide +kernel
theorem dX12_cluster_66 : decode cX12_cluster 66 = .ok (.iconst (-1), 1) := by decide +kernel
theorem dX12_cluster_67 : decode cX12_cluster 67 = .ok (.putfield 133, 3) := by decide +kernel
theorem dX12_cluster_70 : decode cX12_cluster 70 = .ok (.aload_n 0, 1) := by decide +kernel
theorem dX12_cluster_71 : decode cX12_cluster 71 = .ok (.getfield 30, 3) := by decide +kernel
theorem dX12_cluster_74 : decode cX12_cluster 74 = .ok (.ifCond .eq 35, 3) := by decide +kernel
theorem dX12_cluster_77 : decode cX12_cluster 77 = .ok (.aload_n 0, 1) := by decide +kernel
theorem dX12_cluster_78 : decode cX12_cluster 78 = .ok (.invokevirtual 254, 3) := by decide +kernel
theorem dX12_cluster_81 : decode cX12_cluster 81 = .ok (.ifCond .eq 10, 3) := by decide +kernel
theorem dX12_cluster_84 : decode cX12_cluster 84 = .ok (.aload_n 0, 1) := by decide +kernel
theorem dX12_cluster_85 : decode cX12_cluster 85 = .ok (.invokevirtual 257, 3) := by decide +kernel
theorem dX12_cluster_88 : decode cX12_cluster 88 = .ok (.ifCond .ne 15, 3) := by decide +kernel
theorem dX12_cluster_91 : decode cX12_cluster 91 = .ok (.aload_n 0, 1) := by decide +kernel
theorem dX12_cluster_92 : decode cX12_cluster 92 = .ok (.iload_n 1, 1) := by decide +kernel
theorem dX12_cluster_93 : decode cX12_cluster 93 = .ok (.putfield 133, 3) := by decide +kernel
theorem dX12_cluster_96 : decode cX12_cluster 96 = .ok (.iconst (-1), 1) := by decide +kernel
theorem dX12_cluster_97 : decode cX12_cluster 97 = .ok (.aload_n 0, 1) := by decide +kernel
theorem dX12_cluster_98 : decode cX12_cluster 98 = .ok (.getfield 69, 3) := by decide +kernel
theorem dX12_cluster_101 : decode cX12_cluster 101 = .ok (.isub, 1) := by decide +kernel
theorem dX12_cluster_102 : decode cX12_cluster 102 = .ok (.ireturn, 1) := by decide +kernel
theorem dX12_cluster_103 : decode cX12_cluster 103 = .ok (.iinc 1 1, 3) := by decide +kernel
theorem dX12_cluster_106 : decode cX12_cluster 106 = .ok (.goto (-36), 3) := by decide +kernel
theorem dX12_cluster_109 : decode cX12_cluster 109 = .ok (.iconst 0, 1) := by decide +kernel
theorem dX12_cluster_110 : decode cX12_cluster 110 = .ok (.istore_n 2, 1) := by decide +kernel
theorem dX12_cluster_111 : decode cX12_cluster 111 = .ok (.iload_n 2, 1) := by decide +kernel
theorem dX12_cluster_112 : decode cX12_cluster 112 = .ok (.sipush 202, 3) := by decide +kernel
theorem dX12_cluster_115 : decode cX12_cluster 115 = .ok (.if_icmp .ge 21, 3) := by decide +kernel
theorem dX12_cluster_118 : decode cX12_cluster 118 = .ok (.aload_n 0, 1) := by decide +kernel
theorem dX12_cluster_119 : decode cX12_cluster 119 = .ok (.getfield 98, 3) := by decide +kernel
theorem dX12_cluster_122 : decode cX12_cluster 122 = .ok (.iload_n 2, 1) := by decide +kernel
theorem dX12_cluster_123 : decode cX12_cluster 123 = .ok (.aload_n 0, 1) := by decide +kernel
theorem dX12_cluster_124 : decode cX12_cluster 124 = .ok (.getfield 101, 3) := by decide +kernel
theorem dX12_cluster_127 : decode cX12_cluster 127 = .ok (.iload_n 2, 1) := by decide +kernel
theorem dX12_cluster_128 : decode cX12_cluster 128 = .ok (.iaload, 1) := by decide +kernel
theorem dX12_cluster_129 : decode cX12_cluster 129 = .ok (.iastore, 1) := by decide +kernel
theorem dX12_cluster_130 : decode cX12_cluster 130 = .ok (.iinc 2 1, 3) := by decide +kernel
theorem dX12_cluster_133 : decode cX12_cluster 133 = .ok (.goto (-22), 3) := by decide +kernel
theorem dX12_cluster_136 : decode cX12_cluster 136 = .ok (.iconst 0, 1) := by decide +kernel
theorem dX12_cluster_137 : decode cX12_cluster 137 = .ok (.istore_n 2, 1) := by decide +kernel
theorem dX12_cluster_138 : decode cX12_cluster 138 = .ok (.iload_n 2, 1) := by decide +kernel
theorem dX12_cluster_139 : decode cX12_cluster 139 = .ok (.bipush 28, 2) := by decide +kernel
theorem dX12_cluster_141 : decode cX12_cluster 141 = .ok (.if_icmp .ge 21, 3) := by decide +kernel
theorem dX12_cluster_144 : decode cX12_cluster 144 = .ok (.aload_n 0, 1) := by decide +kernel
theorem dX12_cluster_145 : decode cX12_cluster 145 = .ok (.getfield 116, 3) := by decide +kernel
theorem dX12_cluster_148 : decode cX12_cluster 148 = .ok (.iload_n 2, 1) := by decide +kernel
theorem dX12_cluster_149 : decode cX12_cluster 149 = .ok (.aload_n 0, 1) := by decide +kernel
theorem dX12_cluster_150 : decode cX12_cluster 150 = .ok (.getfield 120, 3) := by decide +kernel
theorem dX12_cluster_153 : decode cX12_cluster 153 = .ok (.iload_n 2, 1) := by decide +kernel
theorem dX12_cluster_154 : decode cX12_cluster 154 = .ok (.laload, 1) := by decide +kernel
theorem dX12_cluster_155 : decode cX12_cluster 155 = .ok (.lastore, 1) := by decide +kernel
theorem dX12_cluster_156 : decode cX12_cluster 156 = .ok (.iinc 2 1, 3) := by decide +kernel
theorem dX12_cluster_159 : decode cX12_cluster 159 = .ok (.goto (-21), 3) := by decide +kernel
theorem dX12_cluster_162 : decode cX12_cluster 162 = .ok (.aload_n 0, 1) := by decide +kernel
theorem dX12_cluster_163 : decode cX12_cluster 163 = .ok (.invokevirtual 260, 3) := by decide +kernel
theorem dX12_cluster_166 : decode cX12_cluster 166 = .ok (.aload_n 0, 1) := by decide +kernel
theorem dX12_cluster_167 : decode cX12_cluster 167 = .ok (.iconst 0, 1) := by decide +kernel
theorem dX12_cluster_168 : decode cX12_cluster 168 = .ok (.putfield 263, 3) := by decide +kernel
theorem dX12_cluster_171 : decode cX12_cluster 171 = .ok (.iload_n 1, 1) := by decide +kernel
theorem dX12_cluster_172 : decode cX12_cluster 172 = .ok (.ireturn, 1) := by decide +kernel
theorem dX12_fault_0 : decode cX12_fault 0 = .ok (.aload_n 0, 1) := by decide +kernel
theorem dX12_fault_1 : decode cX12_fault 1 = .ok (.iconst 0, 1) := by decide +kernel
theorem dX12_fault_2 : decode cX12_fault 2 = .ok (.putfield 1, 3) := by decide +kernel
theorem dX12_fault_5 : decode cX12_fault 5 = .ok (.aload_n 0, 1) := by decide +kernel
theorem dX12_fault_6 : decode cX12_fault 6 = .ok (.getfield 66, 3) := by decide +kernel
theorem dX12_fault_9 : decode cX12_fault 9 = .ok (.ireturn, 1) := by decide +kernel
theorem dX12_faultLine_0 : decode cX12_faultLine 0 = .ok (.aload_n 0, 1) := by decide +kernel
theorem dX12_faultLine_1 : decode cX12_faultLine 1 = .ok (.iconst 0, 1) := by decide +kernel
theorem dX12_faultLine_2 : decode cX12_faultLine 2 = .ok (.putfield 1, 3) := by decide +kernel
theorem dX12_faultLine_5 : decode cX12_faultLine 5 = .ok (.aload_n 0, 1) := by decide +kernel
theorem dX12_faultLine_6 : decode cX12_faultLine 6 = .ok (.getfield 133, 3) := by decide +kernel
theorem dX12_faultLine_9 : decode cX12_faultLine 9 = .ok (.ireturn, 1) := by decide +kernel
theorem dX12_mix_0 : decode cX12_mix 0 = .ok (.iload_n 0, 1) := by decide +kernel
theorem dX12_mix_1 : decode cX12_mix 1 = .ok (.iload_n 1, 1) := by decide +kernel
theorem dX12_mix_2 : decode cX12_mix 2 = .ok (.ixor, 1) := by decide +kernel
theorem dX12_mix_3 : decode cX12_mix 3 = .ok (.ldc_w 266, 3) := by decide +kernel
theorem dX12_mix_6 : decode cX12_mix 6 = .ok (.imul, 1) := by decide +kernel
theorem dX12_mix_7 : decode cX12_mix 7 = .ok (.istore_n 2, 1) := by decide +kernel
theorem dX12_mix_8 : decode cX12_mix 8 = .ok (.iload_n 2, 1) := by decide +kernel
theorem dX12_mix_9 : decode cX12_mix 9 = .ok (.iload_n 2, 1) := by decide +kernel
theorem dX12_mix_10 : decode cX12_mix 10 = .ok (.bipush 15, 2) := by decide +kernel
theorem dX12_mix_12 : decode cX12_mix 12 = .ok (.iushr, 1) := by decide +kernel
theorem dX12_mix_13 : decode cX12_mix 13 = .ok (.ixor, 1) := by decide +kernel
theorem dX12_mix_14 : decode cX12_mix 14 = .ok (.ireturn, 1) := by decide +kernel
theorem dX12_letters_0 : decode cX12_letters 0 = .ok (.iconst 0, 1) := by decide +kernel
theorem dX12_letters_1 : decode cX12_letters 1 = .ok (.istore_n 2, 1) := by decide +kernel
theorem dX12_letters_2 : decode cX12_letters 2 = .ok (.lload_n 0, 1) := by decide +kernel
theorem dX12_letters_3 : decode cX12_letters 3 = .ok (.lstore_n 3, 1) := by decide +kernel
theorem dX12_letters_4 : decode cX12_letters 4 = .ok (.lload_n 3, 1) := by decide +kernel
theorem dX12_letters_5 : decode cX12_letters 5 = .ok (.lconst 0, 1) := by decide +kernel
theorem dX12_letters_6 : decode cX12_letters 6 = .ok (.lcmp, 1) := by decide +kernel
theorem dX12_letters_7 : decode cX12_letters 7 = .ok (.ifCond .le 15, 3) := by decide +kernel
theorem dX12_letters_10 : decode cX12_letters 10 = .ok (.iinc 2 1, 3) := by decide +kernel
theorem dX12_letters_13 : decode cX12_letters 13 = .ok (.lload_n 3, 1) := by decide +kernel
theorem dX12_letters_14 : decode cX12_letters 14 = .ok (.ldc2_w 54, 3) := by decide +kernel
theorem dX12_letters_17 : decode cX12_letters 17 = .ok (.ldiv, 1) := by decide +kernel
theorem dX12_letters_18 : decode cX12_letters 18 = .ok (.lstore_n 3, 1) := by decide +kernel
theorem dX12_letters_19 : decode cX12_letters 19 = .ok (.goto (-15), 3) := by decide +kernel
theorem dX12_letters_22 : decode cX12_letters 22 = .ok (.iload_n 2, 1) := by decide +kernel
theorem dX12_letters_23 : decode cX12_letters 23 = .ok (.ireturn, 1) := by decide +kernel
theorem dX12_long7_0 : decode cX12_long7 0 = .ok (.lload_n 0, 1) := by decide +kernel
theorem dX12_long7_1 : decode cX12_long7 1 = .ok (.lstore_n 2, 1) := by decide +kernel
theorem dX12_long7_2 : decode cX12_long7 2 = .ok (.lload_n 0, 1) := by decide +kernel
theorem dX12_long7_3 : decode cX12_long7 3 = .ok (.invokestatic 267, 3) := by decide +kernel
theorem dX12_long7_6 : decode cX12_long7 6 = .ok (.istore 4, 2) := by decide +kernel
theorem dX12_long7_8 : decode cX12_long7 8 = .ok (.iload 4, 2) := by decide +kernel
theorem dX12_long7_10 : decode cX12_long7 10 = .ok (.bipush 7, 2) := by decide +kernel
theorem dX12_long7_12 : decode cX12_long7 12 = .ok (.if_icmp .ge 15, 3) := by decide +kernel
theorem dX12_long7_15 : decode cX12_long7 15 = .ok (.lload_n 2, 1) := by decide +kernel
theorem dX12_long7_16 : decode cX12_long7 16 = .ok (.ldc2_w 54, 3) := by decide +kernel
theorem dX12_long7_19 : decode cX12_long7 19 = .ok (.lmul, 1) := by decide +kernel
theorem dX12_long7_20 : decode cX12_long7 20 = .ok (.lstore_n 2, 1) := by decide +kernel
theorem dX12_long7_21 : decode cX12_long7 21 = .ok (.iinc 4 1, 3) := by decide +kernel
theorem dX12_long7_24 : decode cX12_long7 24 = .ok (.goto (-16), 3) := by decide +kernel
theorem dX12_long7_27 : decode cX12_long7 27 = .ok (.lload_n 2, 1) := by decide +kernel
theorem dX12_long7_28 : decode cX12_long7 28 = .ok (.lreturn, 1) := by decide +kernel
theorem dX12_digestOf_0 : decode cX12_digestOf 0 = .ok (.ldc_w 271, 3) := by decide +kernel
theorem dX12_digestOf_3 : decode cX12_digestOf 3 = .ok (.istore_n 2, 1) := by decide +kernel
theorem dX12_digestOf_4 : decode cX12_digestOf 4 = .ok (.lload_n 0, 1) := by decide +kernel
theorem dX12_digestOf_5 : decode cX12_digestOf 5 = .ok (.invokestatic 272, 3) := by decide +kernel
theorem dX12_digestOf_8 : decode cX12_digestOf 8 = .ok (.lstore_n 3, 1) := by decide +kernel
theorem dX12_digestOf_9 : decode cX12_digestOf 9 = .ok (.ldc2_w 276, 3) := by decide +kernel
theorem dX12_digestOf_12 : decode cX12_digestOf 12 = .ok (.lstore 5, 2) := by decide +kernel
theorem dX12_digestOf_14 : decode cX12_digestOf 14 = .ok (.lload_n 0, 1) := by decide +kernel
theorem dX12_digestOf_15 : decode cX12_digestOf 15 = .ok (.invokestatic 267, 3) := by decide +kernel
theorem dX12_digestOf_18 : decode cX12_digestOf 18 = .ok (.istore 7, 2) := by decide +kernel
theorem dX12_digestOf_20 : decode cX12_digestOf 20 = .ok (.iload 7, 2) := by decide +kernel
theorem dX12_digestOf_22 : decode cX12_digestOf 22 = .ok (.ifCond .le 34, 3) := by decide +kernel
theorem dX12_digestOf_25 : decode cX12_digestOf 25 = .ok (.iload_n 2, 1) := by decide +kernel
theorem dX12_digestOf_26 : decode cX12_digestOf 26 = .ok (.bipush 96, 2) := by decide +kernel
theorem dX12_digestOf_28 : decode cX12_digestOf 28 = .ok (.lload_n 3, 1) := by decide +kernel
theorem dX12_digestOf_29 : decode cX12_digestOf 29 = .ok (.lload 5, 2) := by decide +kernel
theorem dX12_digestOf_31 : decode cX12_digestOf 31 = .ok (.ldiv, 1) := by decide +kernel
theorem dX12_digestOf_32 : decode cX12_digestOf 32 = .ok (.ldc2_w 54, 3) := by decide +kernel
theorem dX12_digestOf_35 : decode cX12_digestOf 35 = .ok (.lrem, 1) := by decide +kernel
theorem dX12_digestOf_36 : decode cX12_digestOf 36 = .ok (.l2i, 1) := by decide +kernel
theorem dX12_digestOf_37 : decode cX12_digestOf 37 = .ok (.iadd, 1) := by decide +kernel
theorem dX12_digestOf_38 : decode cX12_digestOf 38 = .ok (.invokestatic 278, 3) := by decide +kernel
theorem dX12_digestOf_41 : decode cX12_digestOf 41 = .ok (.istore_n 2, 1) := by decide +kernel
theorem dX12_digestOf_42 : decode cX12_digestOf 42 = .ok (.lload 5, 2) := by decide +kernel
theorem dX12_digestOf_44 : decode cX12_digestOf 44 = .ok (.ldc2_w 54, 3) := by decide +kernel
theorem dX12_digestOf_47 : decode cX12_digestOf 47 = .ok (.ldiv, 1) := by decide +kernel
theorem dX12_digestOf_48 : decode cX12_digestOf 48 = .ok (.lstore 5, 2) := by decide +kernel
theorem dX12_digestOf_50 : decode cX12_digestOf 50 = .ok (.iinc 7 (-1), 3) := by decide +kernel
theorem dX12_digestOf_53 : decode cX12_digestOf 53 = .ok (.goto (-33), 3) := by decide +kernel
theorem dX12_digestOf_56 : decode cX12_digestOf 56 = .ok (.iload_n 2, 1) := by decide +kernel
theorem dX12_digestOf_57 : decode cX12_digestOf 57 = .ok (.ireturn, 1) := by decide +kernel
theorem dX12_zeros_0 : decode cX12_zeros 0 = .ok (.iload_n 0, 1) := by decide +kernel
theorem dX12_zeros_1 : decode cX12_zeros 1 = .ok (.ifCond .ne 6, 3) := by decide +kernel
theorem dX12_zeros_4 : decode cX12_zeros 4 = .ok (.bipush 32, 2) := by decide +kernel
theorem dX12_zeros_6 : decode cX12_zeros 6 = .ok (.ireturn, 1) := by decide +kernel
theorem dX12_zeros_7 : decode cX12_zeros 7 = .ok (.iconst 0, 1) := by decide +kernel
theorem dX12_zeros_8 : decode cX12_zeros 8 = .ok (.istore_n 1, 1) := by decide +kernel
theorem dX12_zeros_9 : decode cX12_zeros 9 = .ok (.iload_n 0, 1) := by decide +kernel
theorem dX12_zeros_10 : decode cX12_zeros 10 = .ok (.iload_n 1, 1) := by decide +kernel
theorem dX12_zeros_11 : decode cX12_zeros 11 = .ok (.ishr, 1) := by decide +kernel
theorem dX12_zeros_12 : decode cX12_zeros 12 = .ok (.iconst 1, 1) := by decide +kernel
theorem dX12_zeros_13 : decode cX12_zeros 13 = .ok (.iand, 1) := by decide +kernel
theorem dX12_zeros_14 : decode cX12_zeros 14 = .ok (.ifCond .ne 9, 3) := by decide +kernel
theorem dX12_zeros_17 : decode cX12_zeros 17 = .ok (.iinc 1 1, 3) := by decide +kernel
theorem dX12_zeros_20 : decode cX12_zeros 20 = .ok (.goto (-11), 3) := by decide +kernel
theorem dX12_zeros_23 : decode cX12_zeros 23 = .ok (.iload_n 1, 1) := by decide +kernel
theorem dX12_zeros_24 : decode cX12_zeros 24 = .ok (.ireturn, 1) := by decide +kernel
theorem dX12_layKeys_0 : decode cX12_layKeys 0 = .ok (.aload_n 0, 1) := by decide +kernel
theorem dX12_layKeys_1 : decode cX12_layKeys 1 = .ok (.getfield 98, 3) := by decide +kernel
theorem dX12_layKeys_4 : decode cX12_layKeys 4 = .ok (.iconst 0, 1) := by decide +kernel
theorem dX12_layKeys_5 : decode cX12_layKeys 5 = .ok (.iaload, 1) := by decide +kernel
theorem dX12_layKeys_6 : decode cX12_layKeys 6 = .ok (.istore_n 1, 1) := by decide +kernel
theorem dX12_layKeys_7 : decode cX12_layKeys 7 = .ok (.iconst 0, 1) := by decide +kernel
theorem dX12_layKeys_8 : decode cX12_layKeys 8 = .ok (.istore_n 2, 1) := by decide +kernel
theorem dX12_layKeys_9 : decode cX12_layKeys 9 = .ok (.iload_n 2, 1) := by decide +kernel
theorem dX12_layKeys_10 : decode cX12_layKeys 10 = .ok (.iload_n 1, 1) := by decide +kernel
theorem dX12_layKeys_11 : decode cX12_layKeys 11 = .ok (.if_icmp .ge 103, 3) := by decide +kernel
theorem dX12_layKeys_14 : decode cX12_layKeys 14 = .ok (.aload_n 0, 1) := by decide +kernel
theorem dX12_layKeys_15 : decode cX12_layKeys 15 = .ok (.getfield 136, 3) := by decide +kernel
theorem dX12_layKeys_18 : decode cX12_layKeys 18 = .ok (.iload_n 2, 1) := by decide +kernel
theorem dX12_layKeys_19 : decode cX12_layKeys 19 = .ok (.aload_n 0, 1) := by decide +kernel
theorem dX12_layKeys_20 : decode cX12_layKeys 20 = .ok (.getfield 116, 3) := by decide +kernel
theorem dX12_layKeys_23 : decode cX12_layKeys 23 = .ok (.iload_n 2, 1) := by decide +kernel
theorem dX12_layKeys_24 : decode cX12_layKeys 24 = .ok (.laload, 1) := by decide +kernel
theorem dX12_layKeys_25 : decode cX12_layKeys 25 = .ok (.invokestatic 282, 3) := by decide +kernel
theorem dX12_layKeys_28 : decode cX12_layKeys 28 = .ok (.iastore, 1) := by decide +kernel
theorem dX12_layKeys_29 : decode cX12_layKeys 29 = .ok (.aload_n 0, 1) := by decide +kernel
theorem dX12_layKeys_30 : decode cX12_layKeys 30 = .ok (.getfield 139, 3) := by decide +kernel
theorem dX12_layKeys_33 : decode cX12_layKeys 33 = .ok (.iload_n 2, 1) := by decide +kernel
theorem dX12_layKeys_34 : decode cX12_layKeys 34 = .ok (.aload_n 0, 1) := by decide +kernel
theorem dX12_layKeys_35 : decode cX12_layKeys 35 = .ok (.getfield 136, 3) := by decide +kernel
theorem dX12_layKeys_38 : decode cX12_layKeys 38 = .ok (.iload_n 2, 1) := by decide +kernel
theorem dX12_layKeys_39 : decode cX12_layKeys 39 = .ok (.iaload, 1) := by decide +kernel
theorem dX12_layKeys_40 : decode cX12_layKeys 40 = .ok (.invokestatic 285, 3) := by decide +kernel
theorem dX12_layKeys_43 : decode cX12_layKeys 43 = .ok (.aload_n 0, 1) := by decide +kernel
theorem dX12_layKeys_44 : decode cX12_layKeys 44 = .ok (.getfield 98, 3) := by decide +kernel
theorem dX12_layKeys_47 : decode cX12_layKeys 47 = .ok (.iconst 2, 1) := by decide +kernel
theorem dX12_layKeys_48 : decode cX12_layKeys 48 = .ok (.iaload, 1) := by decide +kernel
theorem dX12_layKeys_49 : decode cX12_layKeys 49 = .ok (.idiv, 1) := by decide +kernel
theorem dX12_layKeys_50 : decode cX12_layKeys 50 = .ok (.iastore, 1) := by decide +kernel
theorem dX12_layKeys_51 : decode cX12_layKeys 51 = .ok (.iconst 0, 1) := by decide +kernel
theorem dX12_layKeys_52 : decode cX12_layKeys 52 = .ok (.istore_n 3, 1) := by decide +kernel
theorem dX12_layKeys_53 : decode cX12_layKeys 53 = .ok (.iconst 0, 1) := by decide +kernel
theorem dX12_layKeys_54 : decode cX12_layKeys 54 = .ok (.istore 4, 2) := by decide +kernel
theorem dX12_layKeys_56 : decode cX12_layKeys 56 = .ok (.iload 4, 2) := by decide +kernel
theorem dX12_layKeys_58 : decode cX12_layKeys 58 = .ok (.iload_n 1, 1) := by decide +kernel
theorem dX12_layKeys_59 : decode cX12_layKeys 59 = .ok (.if_icmp .ge 35, 3) := by decide +kernel
theorem dX12_layKeys_62 : decode cX12_layKeys 62 = .ok (.aload_n 0, 1) := by decide +kernel
theorem dX12_layKeys_63 : decode cX12_layKeys 63 = .ok (.getfield 116, 3) := by decide +kernel
theorem dX12_layKeys_66 : decode cX12_layKeys 66 = .ok (.iload 4, 2) := by decide +kernel
theorem dX12_layKeys_68 : decode cX12_layKeys 68 = .ok (.laload, 1) := by decide +kernel
theorem dX12_layKeys_69 : decode cX12_layKeys 69 = .ok (.invokestatic 272, 3) := by decide +kernel
theorem dX12_layKeys_72 : decode cX12_layKeys 72 = .ok (.aload_n 0, 1) := by decide +kernel
theorem dX12_layKeys_73 : decode cX12_layKeys 73 = .ok (.getfield 116, 3) := by decide +kernel
theorem dX12_layKeys_76 : decode cX12_layKeys 76 = .ok (.iload_n 2, 1) := by decide +kernel
theorem dX12_layKeys_77 : decode cX12_layKeys 77 = .ok (.laload, 1) := by decide +kernel
theorem dX12_layKeys_78 : decode cX12_layKeys 78 = .ok (.invokestatic 272, 3) := by decide +kernel
theorem dX12_layKeys_81 : decode cX12_layKeys 81 = .ok (.lcmp, 1) := by decide +kernel
theorem dX12_layKeys_82 : decode cX12_layKeys 82 = .ok (.ifCond .ge 6, 3) := by decide +kernel
theorem dX12_layKeys_85 : decode cX12_layKeys 85 = .ok (.iinc 3 1, 3) := by decide +kernel
theorem dX12_layKeys_88 : decode cX12_layKeys 88 = .ok (.iinc 4 1, 3) := by decide +kernel
theorem dX12_layKeys_91 : decode cX12_layKeys 91 = .ok (.goto (-35), 3) := by decide +kernel
theorem dX12_layKeys_94 : decode cX12_layKeys 94 = .ok (.aload_n 0, 1) := by decide +kernel
theorem dX12_layKeys_95 : decode cX12_layKeys 95 = .ok (.getfield 142, 3) := by decide +kernel
theorem dX12_layKeys_98 : decode cX12_layKeys 98 = .ok (.iload_n 3, 1) := by decide +kernel
theorem dX12_layKeys_99 : decode cX12_layKeys 99 = .ok (.iload_n 2, 1) := by decide +kernel
theorem dX12_layKeys_100 : decode cX12_layKeys 100 = .ok (.iastore, 1) := by decide +kernel
theorem dX12_layKeys_101 : decode cX12_layKeys 101 = .ok (.aload_n 0, 1) := by decide +kernel
theorem dX12_layKeys_102 : decode cX12_layKeys 102 = .ok (.getfield 145, 3) := by decide +kernel
theorem dX12_layKeys_105 : decode cX12_layKeys 105 = .ok (.iload_n 2, 1) := by decide +kernel
theorem dX12_layKeys_106 : decode cX12_layKeys 106 = .ok (.iload_n 3, 1) := by decide +kernel
theorem dX12_layKeys_107 : decode cX12_layKeys 107 = .ok (.iastore, 1) := by decide +kernel
theorem dX12_layKeys_108 : decode cX12_layKeys 108 = .ok (.iinc 2 1, 3) := by decide +kernel
theorem dX12_layKeys_111 : decode cX12_layKeys 111 = .ok (.goto (-102), 3) := by decide +kernel
theorem dX12_layKeys_114 : decode cX12_layKeys 114 = .ok (.return_, 1) := by decide +kernel
theorem dX12_isKey_0 : decode cX12_isKey 0 = .ok (.iload_n 1, 1) := by decide +kernel
theorem dX12_isKey_1 : decode cX12_isKey 1 = .ok (.iconst 0, 1) := by decide +kernel
theorem dX12_isKey_2 : decode cX12_isKey 2 = .ok (.aload_n 0, 1) := by decide +kernel
theorem dX12_isKey_3 : decode cX12_isKey 3 = .ok (.getfield 98, 3) := by decide +kernel
theorem dX12_isKey_6 : decode cX12_isKey 6 = .ok (.iconst 0, 1) := by decide +kernel
theorem dX12_isKey_7 : decode cX12_isKey 7 = .ok (.iaload, 1) := by decide +kernel
theorem dX12_isKey_8 : decode cX12_isKey 8 = .ok (.iconst 1, 1) := by decide +kernel
theorem dX12_isKey_9 : decode cX12_isKey 9 = .ok (.isub, 1) := by decide +kernel
theorem dX12_isKey_10 : decode cX12_isKey 10 = .ok (.invokestatic 75, 3) := by decide +kernel
theorem dX12_isKey_13 : decode cX12_isKey 13 = .ok (.ireturn, 1) := by decide +kernel
theorem dX12_isPeer_0 : decode cX12_isPeer 0 = .ok (.iload_n 1, 1) := by decide +kernel
theorem dX12_isPeer_1 : decode cX12_isPeer 1 = .ok (.iconst 0, 1) := by decide +kernel
theorem dX12_isPeer_2 : decode cX12_isPeer 2 = .ok (.aload_n 0, 1) := by decide +kernel
theorem dX12_isPeer_3 : decode cX12_isPeer 3 = .ok (.getfield 98, 3) := by decide +kernel
theorem dX12_isPeer_6 : decode cX12_isPeer 6 = .ok (.iconst 1, 1) := by decide +kernel
theorem dX12_isPeer_7 : decode cX12_isPeer 7 = .ok (.iaload, 1) := by decide +kernel
theorem dX12_isPeer_8 : decode cX12_isPeer 8 = .ok (.iconst 1, 1) := by decide +kernel
theorem dX12_isPeer_9 : decode cX12_isPeer 9 = .ok (.isub, 1) := by decide +kernel
theorem dX12_isPeer_10 : decode cX12_isPeer 10 = .ok (.invokestatic 75, 3) := by decide +kernel
theorem dX12_isPeer_13 : decode cX12_isPeer 13 = .ok (.ireturn, 1) := by decide +kernel
theorem dX12_areTwo_0 : decode cX12_areTwo 0 = .ok (.aload_n 0, 1) := by decide +kernel
theorem dX12_areTwo_1 : decode cX12_areTwo 1 = .ok (.iload_n 1, 1) := by decide +kernel
theorem dX12_areTwo_2 : decode cX12_areTwo 2 = .ok (.invokevirtual 288, 3) := by decide +kernel
theorem dX12_areTwo_5 : decode cX12_areTwo 5 = .ok (.ifCond .eq 20, 3) := by decide +kernel
theorem dX12_areTwo_8 : decode cX12_areTwo 8 = .ok (.aload_n 0, 1) := by decide +kernel
theorem dX12_areTwo_9 : decode cX12_areTwo 9 = .ok (.iload_n 2, 1) := by decide +kernel
theorem dX12_areTwo_10 : decode cX12_areTwo 10 = .ok (.invokevirtual 288, 3) := by decide +kernel
theorem dX12_areTwo_13 : decode cX12_areTwo 13 = .ok (.ifCond .eq 12, 3) := by decide +kernel
theorem dX12_areTwo_16 : decode cX12_areTwo 16 = .ok (.iload_n 1, 1) := by decide +kernel
theorem dX12_areTwo_17 : decode cX12_areTwo 17 = .ok (.iload_n 2, 1) := by decide +kernel
theorem dX12_areTwo_18 : decode cX12_areTwo 18 = .ok (.if_icmp .eq 7, 3) := by decide +kernel
theorem dX12_areTwo_21 : decode cX12_areTwo 21 = .ok (.iconst 1, 1) := by decide +kernel
theorem dX12_areTwo_22 : decode cX12_areTwo 22 = .ok (.goto 4, 3) := by decide +kernel
theorem dX12_areTwo_25 : decode cX12_areTwo 25 = .ok (.iconst 0, 1) := by decide +kernel
theorem dX12_areTwo_26 : decode cX12_areTwo 26 = .ok (.ireturn, 1) := by decide +kernel
theorem dX12_at_0 : decode cX12_at 0 = .ok (.bipush 24, 2) := by decide +kernel
theorem dX12_at_2 : decode cX12_at 2 = .ok (.iload_n 0, 1) := by decide +kernel
theorem dX12_at_3 : decode cX12_at 3 = .ok (.imul, 1) := by decide +kernel
theorem dX12_at_4 : decode cX12_at 4 = .ok (.iload_n 1, 1) := by decide +kernel
theorem dX12_at_5 : decode cX12_at 5 = .ok (.iadd, 1) := by decide +kernel
theorem dX12_at_6 : decode cX12_at 6 = .ok (.ireturn, 1) := by decide +kernel
theorem dX12_hasEntry_0 : decode cX12_hasEntry 0 = .ok (.aload_n 0, 1) := by decide +kernel
theorem dX12_hasEntry_1 : decode cX12_hasEntry 1 = .ok (.getfield 98, 3) := by decide +kernel
theorem dX12_hasEntry_4 : decode cX12_hasEntry 4 = .ok (.sipush 309, 3) := by decide +kernel
theorem dX12_hasEntry_7 : decode cX12_hasEntry 7 = .ok (.iload_n 1, 1) := by decide +kernel
theorem dX12_hasEntry_8 : decode cX12_hasEntry 8 = .ok (.iload_n 2, 1) := by decide +kernel
theorem dX12_hasEntry_9 : decode cX12_hasEntry 9 = .ok (.invokestatic 291, 3) := by decide +kernel
theorem dX12_hasEntry_12 : decode cX12_hasEntry 12 = .ok (.iadd, 1) := by decide +kernel
theorem dX12_hasEntry_13 : decode cX12_hasEntry 13 = .ok (.iaload, 1) := by decide +kernel
theorem dX12_hasEntry_14 : decode cX12_hasEntry 14 = .ok (.ifCond .le 7, 3) := by decide +kernel
theorem dX12_hasEntry_17 : decode cX12_hasEntry 17 = .ok (.iconst 1, 1) := by decide +kernel
theorem dX12_hasEntry_18 : decode cX12_hasEntry 18 = .ok (.goto 4, 3) := by decide +kernel
theorem dX12_hasEntry_21 : decode cX12_hasEntry 21 = .ok (.iconst 0, 1) := by decide +kernel
theorem dX12_hasEntry_22 : decode cX12_hasEntry 22 = .ok (.ireturn, 1) := by decide +kernel
theorem dX12_entryDigest_0 : decode cX12_entryDigest 0 = .ok (.aload_n 0, 1) := by decide +kernel
theorem dX12_entryDigest_1 : decode cX12_entryDigest 1 = .ok (.getfield 136, 3) := by decide +kernel
theorem dX12_entryDigest_4 : decode cX12_entryDigest 4 = .ok (.iload_n 2, 1) := by decide +kernel
theorem dX12_entryDigest_5 : decode cX12_entryDigest 5 = .ok (.iaload, 1) := by decide +kernel
theorem dX12_entryDigest_6 : decode cX12_entryDigest 6 = .ok (.aload_n 0, 1) := by decide +kernel
theorem dX12_entryDigest_7 : decode cX12_entryDigest 7 = .ok (.getfield 98, 3) := by decide +kernel
theorem dX12_entryDigest_10 : decode cX12_entryDigest 10 = .ok (.sipush 309, 3) := by decide +kernel
theorem dX12_entryDigest_13 : decode cX12_entryDigest 13 = .ok (.iload_n 1, 1) := by decide +kernel
theorem dX12_entryDigest_14 : decode cX12_entryDigest 14 = .ok (.iload_n 2, 1) := by decide +kernel
theorem dX12_entryDigest_15 : decode cX12_entryDigest 15 = .ok (.invokestatic 291, 3) := by decide +kernel
theorem dX12_entryDigest_18 : decode cX12_entryDigest 18 = .ok (.iadd, 1) := by decide +kernel
theorem dX12_entryDigest_19 : decode cX12_entryDigest 19 = .ok (.iaload, 1) := by decide +kernel
theorem dX12_entryDigest_20 : decode cX12_entryDigest 20 = .ok (.invokestatic 278, 3) := by decide +kernel
theorem dX12_entryDigest_23 : decode cX12_entryDigest 23 = .ok (.aload_n 0, 1) := by decide +kernel
theorem dX12_entryDigest_24 : decode cX12_entryDigest 24 = .ok (.getfield 98, 3) := by decide +kernel
theorem dX12_entryDigest_27 : decode cX12_entryDigest 27 = .ok (.sipush 213, 3) := by decide +kernel
theorem dX12_entryDigest_30 : decode cX12_entryDigest 30 = .ok (.iload_n 1, 1) := by decide +kernel
theorem dX12_entryDigest_31 : decode cX12_entryDigest 31 = .ok (.iload_n 2, 1) := by decide +kernel
theorem dX12_entryDigest_32 : decode cX12_entryDigest 32 = .ok (.invokestatic 291, 3) := by decide +kernel
theorem dX12_entryDigest_35 : decode cX12_entryDigest 35 = .ok (.iadd, 1) := by decide +kernel
theorem dX12_entryDigest_36 : decode cX12_entryDigest 36 = .ok (.iaload, 1) := by decide +kernel
theorem dX12_entryDigest_37 : decode cX12_entryDigest 37 = .ok (.iconst 1, 1) := by decide +kernel
theorem dX12_entryDigest_38 : decode cX12_entryDigest 38 = .ok (.iadd, 1) := by decide +kernel
theorem dX12_entryDigest_39 : decode cX12_entryDigest 39 = .ok (.invokestatic 278, 3) := by decide +kernel
theorem dX12_entryDigest_42 : decode cX12_entryDigest 42 = .ok (.ireturn, 1) := by decide +kernel
theorem dX12_areSame_0 : decode cX12_areSame 0 = .ok (.aload_n 0, 1) := by decide +kernel
theorem dX12_areSame_1 : decode cX12_areSame 1 = .ok (.getfield 98, 3) := by decide +kernel
theorem dX12_areSame_4 : decode cX12_areSame 4 = .ok (.sipush 309, 3) := by decide +kernel
theorem dX12_areSame_7 : decode cX12_areSame 7 = .ok (.iload_n 1, 1) := by decide +kernel
theorem dX12_areSame_8 : decode cX12_areSame 8 = .ok (.iload_n 3, 1) := by decide +kernel
theorem dX12_areSame_9 : decode cX12_areSame 9 = .ok (.invokestatic 291, 3) := by decide +kernel
theorem dX12_areSame_12 : decode cX12_areSame 12 = .ok (.iadd, 1) := by decide +kernel
theorem dX12_areSame_13 : decode cX12_areSame 13 = .ok (.iaload, 1) := by decide +kernel
theorem dX12_areSame_14 : decode cX12_areSame 14 = .ok (.aload_n 0, 1) := by decide +kernel
theorem dX12_areSame_15 : decode cX12_areSame 15 = .ok (.getfield 98, 3) := by decide +kernel
theorem dX12_areSame_18 : decode cX12_areSame 18 = .ok (.sipush 309, 3) := by decide +kernel
theorem dX12_areSame_21 : decode cX12_areSame 21 = .ok (.iload_n 2, 1) := by decide +kernel
theorem dX12_areSame_22 : decode cX12_areSame 22 = .ok (.iload_n 3, 1) := by decide +kernel
theorem dX12_areSame_23 : decode cX12_areSame 23 = .ok (.invokestatic 291, 3) := by decide +kernel
theorem dX12_areSame_26 : decode cX12_areSame 26 = .ok (.iadd, 1) := by decide +kernel
theorem dX12_areSame_27 : decode cX12_areSame 27 = .ok (.iaload, 1) := by decide +kernel
theorem dX12_areSame_28 : decode cX12_areSame 28 = .ok (.if_icmp .ne 47, 3) := by decide +kernel
theorem dX12_areSame_31 : decode cX12_areSame 31 = .ok (.aload_n 0, 1) := by decide +kernel
theorem dX12_areSame_32 : decode cX12_areSame 32 = .ok (.iload_n 1, 1) := by decide +kernel
theorem dX12_areSame_33 : decode cX12_areSame 33 = .ok (.iload_n 3, 1) := by decide +kernel
theorem dX12_areSame_34 : decode cX12_areSame 34 = .ok (.invokevirtual 294, 3) := by decide +kernel
theorem dX12_areSame_37 : decode cX12_areSame 37 = .ok (.ifCond .eq 34, 3) := by decide +kernel
theorem dX12_areSame_40 : decode cX12_areSame 40 = .ok (.aload_n 0, 1) := by decide +kernel
theorem dX12_areSame_41 : decode cX12_areSame 41 = .ok (.getfield 98, 3) := by decide +kernel
theorem dX12_areSame_44 : decode cX12_areSame 44 = .ok (.sipush 213, 3) := by decide +kernel
theorem dX12_areSame_47 : decode cX12_areSame 47 = .ok (.iload_n 1, 1) := by decide +kernel
theorem dX12_areSame_48 : decode cX12_areSame 48 = .ok (.iload_n 3, 1) := by decide +kernel
theorem dX12_areSame_49 : decode cX12_areSame 49 = .ok (.invokestatic 291, 3) := by decide +kernel
theorem dX12_areSame_52 : decode cX12_areSame 52 = .ok (.iadd, 1) := by decide +kernel
theorem dX12_areSame_53 : decode cX12_areSame 53 = .ok (.iaload, 1) := by decide +kernel
theorem dX12_areSame_54 : decode cX12_areSame 54 = .ok (.aload_n 0, 1) := by decide +kernel
theorem dX12_areSame_55 : decode cX12_areSame 55 = .ok (.getfield 98, 3) := by decide +kernel
theorem dX12_areSame_58 : decode cX12_areSame 58 = .ok (.sipush 213, 3) := by decide +kernel
theorem dX12_areSame_61 : decode cX12_areSame 61 = .ok (.iload_n 2, 1) := by decide +kernel
theorem dX12_areSame_62 : decode cX12_areSame 62 = .ok (.iload_n 3, 1) := by decide +kernel
theorem dX12_areSame_63 : decode cX12_areSame 63 = .ok (.invokestatic 291, 3) := by decide +kernel
theorem dX12_areSame_66 : decode cX12_areSame 66 = .ok (.iadd, 1) := by decide +kernel
theorem dX12_areSame_67 : decode cX12_areSame 67 = .ok (.iaload, 1) := by decide +kernel
theorem dX12_areSame_68 : decode cX12_areSame 68 = .ok (.if_icmp .ne 7, 3) := by decide +kernel
theorem dX12_areSame_71 : decode cX12_areSame 71 = .ok (.iconst 1, 1) := by decide +kernel
theorem dX12_areSame_72 : decode cX12_areSame 72 = .ok (.goto 4, 3) := by decide +kernel
theorem dX12_areSame_75 : decode cX12_areSame 75 = .ok (.iconst 0, 1) := by decide +kernel
theorem dX12_areSame_76 : decode cX12_areSame 76 = .ok (.ireturn, 1) := by decide +kernel
theorem dX12_greatest_0 : decode cX12_greatest 0 = .ok (.iconst (-1), 1) := by decide +kernel
theorem dX12_greatest_1 : decode cX12_greatest 1 = .ok (.istore 4, 2) := by decide +kernel
theorem dX12_greatest_3 : decode cX12_greatest 3 = .ok (.iload_n 2, 1) := by decide +kernel
theorem dX12_greatest_4 : decode cX12_greatest 4 = .ok (.istore 5, 2) := by decide +kernel
theorem dX12_greatest_6 : decode cX12_greatest 6 = .ok (.iload 5, 2) := by decide +kernel
theorem dX12_greatest_8 : decode cX12_greatest 8 = .ok (.iload_n 3, 1) := by decide +kernel
theorem dX12_greatest_9 : decode cX12_greatest 9 = .ok (.if_icmp .ge 55, 3) := by decide +kernel
theorem dX12_greatest_12 : decode cX12_greatest 12 = .ok (.aload_n 0, 1) := by decide +kernel
theorem dX12_greatest_13 : decode cX12_greatest 13 = .ok (.iload_n 1, 1) := by decide +kernel
theorem dX12_greatest_14 : decode cX12_greatest 14 = .ok (.aload_n 0, 1) := by decide +kernel
theorem dX12_greatest_15 : decode cX12_greatest 15 = .ok (.getfield 142, 3) := by decide +kernel
theorem dX12_greatest_18 : decode cX12_greatest 18 = .ok (.iload 5, 2) := by decide +kernel
theorem dX12_greatest_20 : decode cX12_greatest 20 = .ok (.iaload, 1) := by decide +kernel
theorem dX12_greatest_21 : decode cX12_greatest 21 = .ok (.invokevirtual 294, 3) := by decide +kernel
theorem dX12_greatest_24 : decode cX12_greatest 24 = .ok (.ifCond .eq 34, 3) := by decide +kernel
theorem dX12_greatest_27 : decode cX12_greatest 27 = .ok (.aload_n 0, 1) := by decide +kernel
theorem dX12_greatest_28 : decode cX12_greatest 28 = .ok (.getfield 139, 3) := by decide +kernel
theorem dX12_greatest_31 : decode cX12_greatest 31 = .ok (.aload_n 0, 1) := by decide +kernel
theorem dX12_greatest_32 : decode cX12_greatest 32 = .ok (.getfield 142, 3) := by decide +kernel
theorem dX12_greatest_35 : decode cX12_greatest 35 = .ok (.iload 5, 2) := by decide +kernel
theorem dX12_greatest_37 : decode cX12_greatest 37 = .ok (.iaload, 1) := by decide +kernel
theorem dX12_greatest_38 : decode cX12_greatest 38 = .ok (.iaload, 1) := by decide +kernel
theorem dX12_greatest_39 : decode cX12_greatest 39 = .ok (.iload 4, 2) := by decide +kernel
theorem dX12_greatest_41 : decode cX12_greatest 41 = .ok (.if_icmp .le 17, 3) := by decide +kernel
theorem dX12_greatest_44 : decode cX12_greatest 44 = .ok (.aload_n 0, 1) := by decide +kernel
theorem dX12_greatest_45 : decode cX12_greatest 45 = .ok (.getfield 139, 3) := by decide +kernel
theorem dX12_greatest_48 : decode cX12_greatest 48 = .ok (.aload_n 0, 1) := by decide +kernel
theorem dX12_greatest_49 : decode cX12_greatest 49 = .ok (.getfield 142, 3) := by decide +kernel
theorem dX12_greatest_52 : decode cX12_greatest 52 = .ok (.iload 5, 2) := by decide +kernel
theorem dX12_greatest_54 : decode cX12_greatest 54 = .ok (.iaload, 1) := by decide +kernel
theorem dX12_greatest_55 : decode cX12_greatest 55 = .ok (.iaload, 1) := by decide +kernel
theorem dX12_greatest_56 : decode cX12_greatest 56 = .ok (.istore 4, 2) := by decide +kernel
theorem dX12_greatest_58 : decode cX12_greatest 58 = .ok (.iinc 5 1, 3) := by decide +kernel
theorem dX12_greatest_61 : decode cX12_greatest 61 = .ok (.goto (-55), 3) := by decide +kernel
theorem dX12_greatest_64 : decode cX12_greatest 64 = .ok (.iload 4, 2) := by decide +kernel
theorem dX12_greatest_66 : decode cX12_greatest 66 = .ok (.ireturn, 1) := by decide +kernel
theorem dX12_layNodes_0 : decode cX12_layNodes 0 = .ok (.aload_n 0, 1) := by decide +kernel
theorem dX12_layNodes_1 : decode cX12_layNodes 1 = .ok (.iload_n 2, 1) := by decide +kernel
theorem dX12_layNodes_2 : decode cX12_layNodes 2 = .ok (.iload_n 3, 1) := by decide +kernel
theorem dX12_layNodes_3 : decode cX12_layNodes 3 = .ok (.iload 4, 2) := by decide +kernel
theorem dX12_layNodes_5 : decode cX12_layNodes 5 = .ok (.invokevirtual 297, 3) := by decide +kernel
theorem dX12_layNodes_8 : decode cX12_layNodes 8 = .ok (.istore 7, 2) := by decide +kernel
theorem dX12_layNodes_10 : decode cX12_layNodes 10 = .ok (.iload 7, 2) := by decide +kernel
theorem dX12_layNodes_12 : decode cX12_layNodes 12 = .ok (.iconst (-1), 1) := by decide +kernel
theorem dX12_layNodes_13 : decode cX12_layNodes 13 = .ok (.if_icmp .ne 5, 3) := by decide +kernel
theorem dX12_layNodes_16 : decode cX12_layNodes 16 = .ok (.iconst 0, 1) := by decide +kernel
theorem dX12_layNodes_17 : decode cX12_layNodes 17 = .ok (.ireturn, 1) := by decide +kernel
theorem dX12_layNodes_18 : decode cX12_layNodes 18 = .ok (.bipush 24, 2) := by decide +kernel
theorem dX12_layNodes_20 : decode cX12_layNodes 20 = .ok (.iload_n 1, 1) := by decide +kernel
theorem dX12_layNodes_21 : decode cX12_layNodes 21 = .ok (.imul, 1) := by decide +kernel
