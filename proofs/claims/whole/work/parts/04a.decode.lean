theorem dX0_init_0 : decode cX0_init 0 = .ok (.aload_n 0, 1) := by decide +kernel
theorem dX0_init_1 : decode cX0_init 1 = .ok (.invokespecial 3, 3) := by decide +kernel
theorem dX0_init_4 : decode cX0_init 4 = .ok (.aload_n 0, 1) := by decide +kernel
theorem dX0_init_5 : decode cX0_init 5 = .ok (.bipush 40, 2) := by decide +kernel
theorem dX0_init_7 : decode cX0_init 7 = .ok (.newarray .int, 2) := by decide +kernel
theorem dX0_init_9 : decode cX0_init 9 = .ok (.putfield 9, 3) := by decide +kernel
theorem dX0_init_12 : decode cX0_init 12 = .ok (.aload_n 0, 1) := by decide +kernel
theorem dX0_init_13 : decode cX0_init 13 = .ok (.bipush 40, 2) := by decide +kernel
theorem dX0_init_15 : decode cX0_init 15 = .ok (.newarray .int, 2) := by decide +kernel
theorem dX0_init_17 : decode cX0_init 17 = .ok (.putfield 15, 3) := by decide +kernel
theorem dX0_init_20 : decode cX0_init 20 = .ok (.aload_n 0, 1) := by decide +kernel
theorem dX0_init_21 : decode cX0_init 21 = .ok (.bipush 40, 2) := by decide +kernel
theorem dX0_init_23 : decode cX0_init 23 = .ok (.newarray .int, 2) := by decide +kernel
theorem dX0_init_25 : decode cX0_init 25 = .ok (.putfield 18, 3) := by decide +kernel
theorem dX0_init_28 : decode cX0_init 28 = .ok (.aload_n 0, 1) := by decide +kernel
theorem dX0_init_29 : decode cX0_init 29 = .ok (.bipush 40, 2) := by decide +kernel
theorem dX0_init_31 : decode cX0_init 31 = .ok (.newarray .int, 2) := by decide +kernel
theorem dX0_init_33 : decode cX0_init 33 = .ok (.putfield 21, 3) := by decide +kernel
theorem dX0_init_36 : decode cX0_init 36 = .ok (.aload_n 0, 1) := by decide +kernel
theorem dX0_init_37 : decode cX0_init 37 = .ok (.iconst 0, 1) := by decide +kernel
theorem dX0_init_38 : decode cX0_init 38 = .ok (.putfield 24, 3) := by decide +kernel
theorem dX0_init_41 : decode cX0_init 41 = .ok (.aload_n 0, 1) := by decide +kernel
theorem dX0_init_42 : decode cX0_init 42 = .ok (.iconst 0, 1) := by decide +kernel
theorem dX0_init_43 : decode cX0_init 43 = .ok (.putfield 28, 3) := by decide +kernel
theorem dX0_init_46 : decode cX0_init 46 = .ok (.aload_n 0, 1) := by decide +kernel
theorem dX0_init_47 : decode cX0_init 47 = .ok (.iconst 0, 1) := by decide +kernel
theorem dX0_init_48 : decode cX0_init 48 = .ok (.putfield 32, 3) := by decide +kernel
theorem dX0_init_51 : decode cX0_init 51 = .ok (.aload_n 0, 1) := by decide +kernel
theorem dX0_init_52 : decode cX0_init 52 = .ok (.iconst 0, 1) := by decide +kernel
theorem dX0_init_53 : decode cX0_init 53 = .ok (.putfield 35, 3) := by decide +kernel
theorem dX0_init_56 : decode cX0_init 56 = .ok (.aload_n 0, 1) := by decide +kernel
theorem dX0_init_57 : decode cX0_init 57 = .ok (.iconst 0, 1) := by decide +kernel
theorem dX0_init_58 : decode cX0_init 58 = .ok (.putfield 38, 3) := by decide +kernel
theorem dX0_init_61 : decode cX0_init 61 = .ok (.aload_n 0, 1) := by decide +kernel
theorem dX0_init_62 : decode cX0_init 62 = .ok (.iconst 0, 1) := by decide +kernel
theorem dX0_init_63 : decode cX0_init 63 = .ok (.putfield 41, 3) := by decide +kernel
theorem dX0_init_66 : decode cX0_init 66 = .ok (.aload_n 0, 1) := by decide +kernel
theorem dX0_init_67 : decode cX0_init 67 = .ok (.aload_n 1, 1) := by decide +kernel
theorem dX0_init_68 : decode cX0_init 68 = .ok (.putfield 44, 3) := by decide +kernel
theorem dX0_init_71 : decode cX0_init 71 = .ok (.aload_n 0, 1) := by decide +kernel
theorem dX0_init_72 : decode cX0_init 72 = .ok (.aload_n 2, 1) := by decide +kernel
theorem dX0_init_73 : decode cX0_init 73 = .ok (.putfield 48, 3) := by decide +kernel
theorem dX0_init_76 : decode cX0_init 76 = .ok (.return_, 1) := by decide +kernel
theorem dX0_read_0 : decode cX0_read 0 = .ok (.aload_n 0, 1) := by decide +kernel
theorem dX0_read_1 : decode cX0_read 1 = .ok (.iconst 0, 1) := by decide +kernel
theorem dX0_read_2 : decode cX0_read 2 = .ok (.putfield 24, 3) := by decide +kernel
theorem dX0_read_5 : decode cX0_read 5 = .ok (.iconst 0, 1) := by decide +kernel
theorem dX0_read_6 : decode cX0_read 6 = .ok (.istore_n 1, 1) := by decide +kernel
theorem dX0_read_7 : decode cX0_read 7 = .ok (.iload_n 1, 1) := by decide +kernel
theorem dX0_read_8 : decode cX0_read 8 = .ok (.sipush 940, 3) := by decide +kernel
theorem dX0_read_11 : decode cX0_read 11 = .ok (.if_icmp .ge 28, 3) := by decide +kernel
theorem dX0_read_14 : decode cX0_read 14 = .ok (.aload_n 0, 1) := by decide +kernel
theorem dX0_read_15 : decode cX0_read 15 = .ok (.getfield 44, 3) := by decide +kernel
theorem dX0_read_18 : decode cX0_read 18 = .ok (.getfield 52, 3) := by decide +kernel
theorem dX0_read_21 : decode cX0_read 21 = .ok (.ifCond .eq 18, 3) := by decide +kernel
theorem dX0_read_24 : decode cX0_read 24 = .ok (.aload_n 0, 1) := by decide +kernel
theorem dX0_read_25 : decode cX0_read 25 = .ok (.invokevirtual 57, 3) := by decide +kernel
theorem dX0_read_28 : decode cX0_read 28 = .ok (.ifCond .ne 5, 3) := by decide +kernel
theorem dX0_read_31 : decode cX0_read 31 = .ok (.iconst 0, 1) := by decide +kernel
theorem dX0_read_32 : decode cX0_read 32 = .ok (.ireturn, 1) := by decide +kernel
theorem dX0_read_33 : decode cX0_read 33 = .ok (.iinc 1 1, 3) := by decide +kernel
theorem dX0_read_36 : decode cX0_read 36 = .ok (.goto (-29), 3) := by decide +kernel
theorem dX0_read_39 : decode cX0_read 39 = .ok (.aload_n 0, 1) := by decide +kernel
theorem dX0_read_40 : decode cX0_read 40 = .ok (.getfield 44, 3) := by decide +kernel
theorem dX0_read_43 : decode cX0_read 43 = .ok (.invokevirtual 61, 3) := by decide +kernel
theorem dX0_read_46 : decode cX0_read 46 = .ok (.ireturn, 1) := by decide +kernel
theorem dX0_readLine_0 : decode cX0_readLine 0 = .ok (.aload_n 0, 1) := by decide +kernel
theorem dX0_readLine_1 : decode cX0_readLine 1 = .ok (.getfield 44, 3) := by decide +kernel
theorem dX0_readLine_4 : decode cX0_readLine 4 = .ok (.getfield 64, 3) := by decide +kernel
theorem dX0_readLine_7 : decode cX0_readLine 7 = .ok (.istore_n 1, 1) := by decide +kernel
theorem dX0_readLine_8 : decode cX0_readLine 8 = .ok (.iload_n 1, 1) := by decide +kernel
theorem dX0_readLine_9 : decode cX0_readLine 9 = .ok (.bipush 9, 2) := by decide +kernel
theorem dX0_readLine_11 : decode cX0_readLine 11 = .ok (.if_icmp .lt 9, 3) := by decide +kernel
theorem dX0_readLine_14 : decode cX0_readLine 14 = .ok (.iload_n 1, 1) := by decide +kernel
theorem dX0_readLine_15 : decode cX0_readLine 15 = .ok (.bipush 13, 2) := by decide +kernel
theorem dX0_readLine_17 : decode cX0_readLine 17 = .ok (.if_icmp .le 12, 3) := by decide +kernel
theorem dX0_readLine_20 : decode cX0_readLine 20 = .ok (.aload_n 0, 1) := by decide +kernel
theorem dX0_readLine_21 : decode cX0_readLine 21 = .ok (.getfield 44, 3) := by decide +kernel
theorem dX0_readLine_24 : decode cX0_readLine 24 = .ok (.iconst 1, 1) := by decide +kernel
theorem dX0_readLine_25 : decode cX0_readLine 25 = .ok (.invokevirtual 67, 3) := by decide +kernel
theorem dX0_readLine_28 : decode cX0_readLine 28 = .ok (.ireturn, 1) := by decide +kernel
theorem dX0_readLine_29 : decode cX0_readLine 29 = .ok (.aload_n 0, 1) := by decide +kernel
theorem dX0_readLine_30 : decode cX0_readLine 30 = .ok (.getfield 24, 3) := by decide +kernel
theorem dX0_readLine_33 : decode cX0_readLine 33 = .ok (.bipush 40, 2) := by decide +kernel
theorem dX0_readLine_35 : decode cX0_readLine 35 = .ok (.if_icmp .lt 12, 3) := by decide +kernel
theorem dX0_readLine_38 : decode cX0_readLine 38 = .ok (.aload_n 0, 1) := by decide +kernel
theorem dX0_readLine_39 : decode cX0_readLine 39 = .ok (.getfield 44, 3) := by decide +kernel
theorem dX0_readLine_42 : decode cX0_readLine 42 = .ok (.iconst 4, 1) := by decide +kernel
theorem dX0_readLine_43 : decode cX0_readLine 43 = .ok (.invokevirtual 67, 3) := by decide +kernel
theorem dX0_readLine_46 : decode cX0_readLine 46 = .ok (.ireturn, 1) := by decide +kernel
theorem dX0_readLine_47 : decode cX0_readLine 47 = .ok (.aload_n 0, 1) := by decide +kernel
theorem dX0_readLine_48 : decode cX0_readLine 48 = .ok (.getfield 9, 3) := by decide +kernel
theorem dX0_readLine_51 : decode cX0_readLine 51 = .ok (.aload_n 0, 1) := by decide +kernel
theorem dX0_readLine_52 : decode cX0_readLine 52 = .ok (.getfield 24, 3) := by decide +kernel
theorem dX0_readLine_55 : decode cX0_readLine 55 = .ok (.iload_n 1, 1) := by decide +kernel
theorem dX0_readLine_56 : decode cX0_readLine 56 = .ok (.iastore, 1) := by decide +kernel
theorem dX0_readLine_57 : decode cX0_readLine 57 = .ok (.aload_n 0, 1) := by decide +kernel
theorem dX0_readLine_58 : decode cX0_readLine 58 = .ok (.getfield 44, 3) := by decide +kernel
theorem dX0_readLine_61 : decode cX0_readLine 61 = .ok (.invokevirtual 71, 3) := by decide +kernel
theorem dX0_readLine_64 : decode cX0_readLine 64 = .ok (.aload_n 0, 1) := by decide +kernel
theorem dX0_readLine_65 : decode cX0_readLine 65 = .ok (.getfield 44, 3) := by decide +kernel
theorem dX0_readLine_68 : decode cX0_readLine 68 = .ok (.aload_n 0, 1) := by decide +kernel
theorem dX0_readLine_69 : decode cX0_readLine 69 = .ok (.getfield 48, 3) := by decide +kernel
theorem dX0_readLine_72 : decode cX0_readLine 72 = .ok (.invokevirtual 74, 3) := by decide +kernel
theorem dX0_readLine_75 : decode cX0_readLine 75 = .ok (.istore_n 2, 1) := by decide +kernel
theorem dX0_readLine_76 : decode cX0_readLine 76 = .ok (.iload_n 2, 1) := by decide +kernel
theorem dX0_readLine_77 : decode cX0_readLine 77 = .ok (.iconst (-1), 1) := by decide +kernel
theorem dX0_readLine_78 : decode cX0_readLine 78 = .ok (.if_icmp .ne 5, 3) := by decide +kernel
theorem dX0_readLine_81 : decode cX0_readLine 81 = .ok (.iconst 0, 1) := by decide +kernel
theorem dX0_readLine_82 : decode cX0_readLine 82 = .ok (.ireturn, 1) := by decide +kernel
theorem dX0_readLine_83 : decode cX0_readLine 83 = .ok (.aload_n 0, 1) := by decide +kernel
theorem dX0_readLine_84 : decode cX0_readLine 84 = .ok (.getfield 15, 3) := by decide +kernel
theorem dX0_readLine_87 : decode cX0_readLine 87 = .ok (.aload_n 0, 1) := by decide +kernel
theorem dX0_readLine_88 : decode cX0_readLine 88 = .ok (.getfield 24, 3) := by decide +kernel
theorem dX0_readLine_91 : decode cX0_readLine 91 = .ok (.iload_n 2, 1) := by decide +kernel
theorem dX0_readLine_92 : decode cX0_readLine 92 = .ok (.iastore, 1) := by decide +kernel
theorem dX0_readLine_93 : decode cX0_readLine 93 = .ok (.aload_n 0, 1) := by decide +kernel
theorem dX0_readLine_94 : decode cX0_readLine 94 = .ok (.getfield 44, 3) := by decide +kernel
theorem dX0_readLine_97 : decode cX0_readLine 97 = .ok (.invokevirtual 71, 3) := by decide +kernel
theorem dX0_readLine_100 : decode cX0_readLine 100 = .ok (.iload_n 1, 1) := by decide +kernel
theorem dX0_readLine_101 : decode cX0_readLine 101 = .ok (.bipush 10, 2) := by decide +kernel
theorem dX0_readLine_103 : decode cX0_readLine 103 = .ok (.if_icmp .eq 9, 3) := by decide +kernel
theorem dX0_readLine_106 : decode cX0_readLine 106 = .ok (.iload_n 1, 1) := by decide +kernel
theorem dX0_readLine_107 : decode cX0_readLine 107 = .ok (.bipush 11, 2) := by decide +kernel
theorem dX0_readLine_109 : decode cX0_readLine 109 = .ok (.if_icmp .ne 7, 3) := by decide +kernel
theorem dX0_readLine_112 : decode cX0_readLine 112 = .ok (.iconst 1, 1) := by decide +kernel
theorem dX0_readLine_113 : decode cX0_readLine 113 = .ok (.goto 4, 3) := by decide +kernel
theorem dX0_readLine_116 : decode cX0_readLine 116 = .ok (.iconst 0, 1) := by decide +kernel
theorem dX0_readLine_117 : decode cX0_readLine 117 = .ok (.istore_n 3, 1) := by decide +kernel
theorem dX0_readLine_118 : decode cX0_readLine 118 = .ok (.iload_n 3, 1) := by decide +kernel
theorem dX0_readLine_119 : decode cX0_readLine 119 = .ok (.ifCond .eq 14, 3) := by decide +kernel
theorem dX0_readLine_122 : decode cX0_readLine 122 = .ok (.aload_n 0, 1) := by decide +kernel
theorem dX0_readLine_123 : decode cX0_readLine 123 = .ok (.iload_n 1, 1) := by decide +kernel
theorem dX0_readLine_124 : decode cX0_readLine 124 = .ok (.invokevirtual 78, 3) := by decide +kernel
theorem dX0_readLine_127 : decode cX0_readLine 127 = .ok (.ifCond .eq 24, 3) := by decide +kernel
theorem dX0_readLine_130 : decode cX0_readLine 130 = .ok (.goto 11, 3) := by decide +kernel
theorem dX0_readLine_133 : decode cX0_readLine 133 = .ok (.aload_n 0, 1) := by decide +kernel
theorem dX0_readLine_134 : decode cX0_readLine 134 = .ok (.iload_n 2, 1) := by decide +kernel
theorem dX0_readLine_135 : decode cX0_readLine 135 = .ok (.invokevirtual 81, 3) := by decide +kernel
theorem dX0_readLine_138 : decode cX0_readLine 138 = .ok (.ifCond .eq 13, 3) := by decide +kernel
theorem dX0_readLine_141 : decode cX0_readLine 141 = .ok (.aload_n 0, 1) := by decide +kernel
theorem dX0_readLine_142 : decode cX0_readLine 142 = .ok (.getfield 44, 3) := by decide +kernel
theorem dX0_readLine_145 : decode cX0_readLine 145 = .ok (.invokevirtual 84, 3) := by decide +kernel
theorem dX0_readLine_148 : decode cX0_readLine 148 = .ok (.ifCond .ne 5, 3) := by decide +kernel
theorem dX0_readLine_151 : decode cX0_readLine 151 = .ok (.iconst 0, 1) := by decide +kernel
theorem dX0_readLine_152 : decode cX0_readLine 152 = .ok (.ireturn, 1) := by decide +kernel
theorem dX0_readLine_153 : decode cX0_readLine 153 = .ok (.aload_n 0, 1) := by decide +kernel
theorem dX0_readLine_154 : decode cX0_readLine 154 = .ok (.dup, 1) := by decide +kernel
theorem dX0_readLine_155 : decode cX0_readLine 155 = .ok (.getfield 24, 3) := by decide +kernel
theorem dX0_readLine_158 : decode cX0_readLine 158 = .ok (.iconst 1, 1) := by decide +kernel
theorem dX0_readLine_159 : decode cX0_readLine 159 = .ok (.iadd, 1) := by decide +kernel
theorem dX0_readLine_160 : decode cX0_readLine 160 = .ok (.putfield 24, 3) := by decide +kernel
theorem dX0_readLine_163 : decode cX0_readLine 163 = .ok (.iconst 1, 1) := by decide +kernel
theorem dX0_readLine_164 : decode cX0_readLine 164 = .ok (.ireturn, 1) := by decide +kernel
theorem dX0_readKeyPart_0 : decode cX0_readKeyPart 0 = .ok (.aload_n 0, 1) := by decide +kernel
theorem dX0_readKeyPart_1 : decode cX0_readKeyPart 1 = .ok (.getfield 44, 3) := by decide +kernel
theorem dX0_readKeyPart_4 : decode cX0_readKeyPart 4 = .ok (.aload_n 0, 1) := by decide +kernel
theorem dX0_readKeyPart_5 : decode cX0_readKeyPart 5 = .ok (.getfield 48, 3) := by decide +kernel
theorem dX0_readKeyPart_8 : decode cX0_readKeyPart 8 = .ok (.invokevirtual 87, 3) := by decide +kernel
theorem dX0_readKeyPart_11 : decode cX0_readKeyPart 11 = .ok (.istore_n 2, 1) := by decide +kernel
theorem dX0_readKeyPart_12 : decode cX0_readKeyPart 12 = .ok (.iload_n 2, 1) := by decide +kernel
theorem dX0_readKeyPart_13 : decode cX0_readKeyPart 13 = .ok (.iconst (-1), 1) := by decide +kernel
theorem dX0_readKeyPart_14 : decode cX0_readKeyPart 14 = .ok (.if_icmp .ne 5, 3) := by decide +kernel
theorem dX0_readKeyPart_17 : decode cX0_readKeyPart 17 = .ok (.iconst 0, 1) := by decide +kernel
theorem dX0_readKeyPart_18 : decode cX0_readKeyPart 18 = .ok (.ireturn, 1) := by decide +kernel
theorem dX0_readKeyPart_19 : decode cX0_readKeyPart 19 = .ok (.aload_n 0, 1) := by decide +kernel
theorem dX0_readKeyPart_20 : decode cX0_readKeyPart 20 = .ok (.getfield 18, 3) := by decide +kernel
theorem dX0_readKeyPart_23 : decode cX0_readKeyPart 23 = .ok (.aload_n 0, 1) := by decide +kernel
theorem dX0_readKeyPart_24 : decode cX0_readKeyPart 24 = .ok (.getfield 24, 3) := by decide +kernel
theorem dX0_readKeyPart_27 : decode cX0_readKeyPart 27 = .ok (.iload_n 2, 1) := by decide +kernel
theorem dX0_readKeyPart_28 : decode cX0_readKeyPart 28 = .ok (.iastore, 1) := by decide +kernel
theorem dX0_readKeyPart_29 : decode cX0_readKeyPart 29 = .ok (.aload_n 0, 1) := by decide +kernel
theorem dX0_readKeyPart_30 : decode cX0_readKeyPart 30 = .ok (.getfield 44, 3) := by decide +kernel
theorem dX0_readKeyPart_33 : decode cX0_readKeyPart 33 = .ok (.invokevirtual 71, 3) := by decide +kernel
theorem dX0_readKeyPart_36 : decode cX0_readKeyPart 36 = .ok (.iload_n 1, 1) := by decide +kernel
theorem dX0_readKeyPart_37 : decode cX0_readKeyPart 37 = .ok (.bipush 11, 2) := by decide +kernel
theorem dX0_readKeyPart_39 : decode cX0_readKeyPart 39 = .ok (.if_icmp .ne 5, 3) := by decide +kernel
theorem dX0_readKeyPart_42 : decode cX0_readKeyPart 42 = .ok (.iconst 1, 1) := by decide +kernel
theorem dX0_readKeyPart_43 : decode cX0_readKeyPart 43 = .ok (.ireturn, 1) := by decide +kernel
theorem dX0_readKeyPart_44 : decode cX0_readKeyPart 44 = .ok (.aload_n 0, 1) := by decide +kernel
theorem dX0_readKeyPart_45 : decode cX0_readKeyPart 45 = .ok (.getfield 44, 3) := by decide +kernel
theorem dX0_readKeyPart_48 : decode cX0_readKeyPart 48 = .ok (.iconst 0, 1) := by decide +kernel
theorem dX0_readKeyPart_49 : decode cX0_readKeyPart 49 = .ok (.sipush 999, 3) := by decide +kernel
theorem dX0_readKeyPart_52 : decode cX0_readKeyPart 52 = .ok (.invokevirtual 90, 3) := by decide +kernel
theorem dX0_readKeyPart_55 : decode cX0_readKeyPart 55 = .ok (.istore_n 3, 1) := by decide +kernel
theorem dX0_readKeyPart_56 : decode cX0_readKeyPart 56 = .ok (.iload_n 3, 1) := by decide +kernel
theorem dX0_readKeyPart_57 : decode cX0_readKeyPart 57 = .ok (.iconst (-1), 1) := by decide +kernel
theorem dX0_readKeyPart_58 : decode cX0_readKeyPart 58 = .ok (.if_icmp .ne 5, 3) := by decide +kernel
theorem dX0_readKeyPart_61 : decode cX0_readKeyPart 61 = .ok (.iconst 0, 1) := by decide +kernel
theorem dX0_readKeyPart_62 : decode cX0_readKeyPart 62 = .ok (.ireturn, 1) := by decide +kernel
theorem dX0_readKeyPart_63 : decode cX0_readKeyPart 63 = .ok (.aload_n 0, 1) := by decide +kernel
theorem dX0_readKeyPart_64 : decode cX0_readKeyPart 64 = .ok (.getfield 21, 3) := by decide +kernel
theorem dX0_readKeyPart_67 : decode cX0_readKeyPart 67 = .ok (.aload_n 0, 1) := by decide +kernel
theorem dX0_readKeyPart_68 : decode cX0_readKeyPart 68 = .ok (.getfield 24, 3) := by decide +kernel
theorem dX0_readKeyPart_71 : decode cX0_readKeyPart 71 = .ok (.iload_n 3, 1) := by decide +kernel
theorem dX0_readKeyPart_72 : decode cX0_readKeyPart 72 = .ok (.iastore, 1) := by decide +kernel
theorem dX0_readKeyPart_73 : decode cX0_readKeyPart 73 = .ok (.aload_n 0, 1) := by decide +kernel
theorem dX0_readKeyPart_74 : decode cX0_readKeyPart 74 = .ok (.getfield 44, 3) := by decide +kernel
theorem dX0_readKeyPart_77 : decode cX0_readKeyPart 77 = .ok (.invokevirtual 71, 3) := by decide +kernel
theorem dX0_readKeyPart_80 : decode cX0_readKeyPart 80 = .ok (.iconst 1, 1) := by decide +kernel
theorem dX0_readKeyPart_81 : decode cX0_readKeyPart 81 = .ok (.ireturn, 1) := by decide +kernel
theorem dX0_readOtherPeer_0 : decode cX0_readOtherPeer 0 = .ok (.aload_n 0, 1) := by decide +kernel
theorem dX0_readOtherPeer_1 : decode cX0_readOtherPeer 1 = .ok (.getfield 44, 3) := by decide +kernel
theorem dX0_readOtherPeer_4 : decode cX0_readOtherPeer 4 = .ok (.aload_n 0, 1) := by decide +kernel
theorem dX0_readOtherPeer_5 : decode cX0_readOtherPeer 5 = .ok (.getfield 48, 3) := by decide +kernel
theorem dX0_readOtherPeer_8 : decode cX0_readOtherPeer 8 = .ok (.invokevirtual 74, 3) := by decide +kernel
theorem dX0_readOtherPeer_11 : decode cX0_readOtherPeer 11 = .ok (.istore_n 2, 1) := by decide +kernel
theorem dX0_readOtherPeer_12 : decode cX0_readOtherPeer 12 = .ok (.iload_n 2, 1) := by decide +kernel
theorem dX0_readOtherPeer_13 : decode cX0_readOtherPeer 13 = .ok (.iconst (-1), 1) := by decide +kernel
theorem dX0_readOtherPeer_14 : decode cX0_readOtherPeer 14 = .ok (.if_icmp .ne 5, 3) := by decide +kernel
theorem dX0_readOtherPeer_17 : decode cX0_readOtherPeer 17 = .ok (.iconst 0, 1) := by decide +kernel
theorem dX0_readOtherPeer_18 : decode cX0_readOtherPeer 18 = .ok (.ireturn, 1) := by decide +kernel
theorem dX0_readOtherPeer_19 : decode cX0_readOtherPeer 19 = .ok (.iload_n 2, 1) := by decide +kernel
theorem dX0_readOtherPeer_20 : decode cX0_readOtherPeer 20 = .ok (.iload_n 1, 1) := by decide +kernel
theorem dX0_readOtherPeer_21 : decode cX0_readOtherPeer 21 = .ok (.if_icmp .ne 12, 3) := by decide +kernel
theorem dX0_readOtherPeer_24 : decode cX0_readOtherPeer 24 = .ok (.aload_n 0, 1) := by decide +kernel
theorem dX0_readOtherPeer_25 : decode cX0_readOtherPeer 25 = .ok (.getfield 44, 3) := by decide +kernel
theorem dX0_readOtherPeer_28 : decode cX0_readOtherPeer 28 = .ok (.iconst 3, 1) := by decide +kernel
theorem dX0_readOtherPeer_29 : decode cX0_readOtherPeer 29 = .ok (.invokevirtual 67, 3) := by decide +kernel
theorem dX0_readOtherPeer_32 : decode cX0_readOtherPeer 32 = .ok (.ireturn, 1) := by decide +kernel
theorem dX0_readOtherPeer_33 : decode cX0_readOtherPeer 33 = .ok (.aload_n 0, 1) := by decide +kernel
theorem dX0_readOtherPeer_34 : decode cX0_readOtherPeer 34 = .ok (.getfield 18, 3) := by decide +kernel
theorem dX0_readOtherPeer_37 : decode cX0_readOtherPeer 37 = .ok (.aload_n 0, 1) := by decide +kernel
theorem dX0_readOtherPeer_38 : decode cX0_readOtherPeer 38 = .ok (.getfield 24, 3) := by decide +kernel
theorem dX0_readOtherPeer_41 : decode cX0_readOtherPeer 41 = .ok (.iload_n 2, 1) := by decide +kernel
theorem dX0_readOtherPeer_42 : decode cX0_readOtherPeer 42 = .ok (.iastore, 1) := by decide +kernel
theorem dX0_readOtherPeer_43 : decode cX0_readOtherPeer 43 = .ok (.aload_n 0, 1) := by decide +kernel
theorem dX0_readOtherPeer_44 : decode cX0_readOtherPeer 44 = .ok (.getfield 44, 3) := by decide +kernel
theorem dX0_readOtherPeer_47 : decode cX0_readOtherPeer 47 = .ok (.invokevirtual 71, 3) := by decide +kernel
theorem dX0_readOtherPeer_50 : decode cX0_readOtherPeer 50 = .ok (.iconst 1, 1) := by decide +kernel
theorem dX0_readOtherPeer_51 : decode cX0_readOtherPeer 51 = .ok (.ireturn, 1) := by decide +kernel
theorem dX0_judge_0 : decode cX0_judge 0 = .ok (.aload_n 0, 1) := by decide +kernel
theorem dX0_judge_1 : decode cX0_judge 1 = .ok (.iconst 0, 1) := by decide +kernel
theorem dX0_judge_2 : decode cX0_judge 2 = .ok (.putfield 32, 3) := by decide +kernel
theorem dX0_judge_5 : decode cX0_judge 5 = .ok (.aload_n 0, 1) := by decide +kernel
theorem dX0_judge_6 : decode cX0_judge 6 = .ok (.iconst 0, 1) := by decide +kernel
theorem dX0_judge_7 : decode cX0_judge 7 = .ok (.putfield 35, 3) := by decide +kernel
theorem dX0_judge_10 : decode cX0_judge 10 = .ok (.iconst 0, 1) := by decide +kernel
theorem dX0_judge_11 : decode cX0_judge 11 = .ok (.istore_n 2, 1) := by decide +kernel
theorem dX0_judge_12 : decode cX0_judge 12 = .ok (.iload_n 2, 1) := by decide +kernel
theorem dX0_judge_13 : decode cX0_judge 13 = .ok (.aload_n 0, 1) := by decide +kernel
theorem dX0_judge_14 : decode cX0_judge 14 = .ok (.getfield 24, 3) := by decide +kernel
theorem dX0_judge_17 : decode cX0_judge 17 = .ok (.if_icmp .ge 43, 3) := by decide +kernel
theorem dX0_judge_20 : decode cX0_judge 20 = .ok (.aload_n 0, 1) := by decide +kernel
theorem dX0_judge_21 : decode cX0_judge 21 = .ok (.getfield 32, 3) := by decide +kernel
theorem dX0_judge_24 : decode cX0_judge 24 = .ok (.ifCond .ne 36, 3) := by decide +kernel
theorem dX0_judge_27 : decode cX0_judge 27 = .ok (.aload_n 0, 1) := by decide +kernel
theorem dX0_judge_28 : decode cX0_judge 28 = .ok (.aload_n 0, 1) := by decide +kernel
theorem dX0_judge_29 : decode cX0_judge 29 = .ok (.aload_n 1, 1) := by decide +kernel
theorem dX0_judge_30 : decode cX0_judge 30 = .ok (.iload_n 2, 1) := by decide +kernel
theorem dX0_judge_31 : decode cX0_judge 31 = .ok (.invokevirtual 94, 3) := by decide +kernel
theorem dX0_judge_34 : decode cX0_judge 34 = .ok (.putfield 32, 3) := by decide +kernel
theorem dX0_judge_37 : decode cX0_judge 37 = .ok (.aload_n 0, 1) := by decide +kernel
theorem dX0_judge_38 : decode cX0_judge 38 = .ok (.getfield 32, 3) := by decide +kernel
theorem dX0_judge_41 : decode cX0_judge 41 = .ok (.ifCond .ne 13, 3) := by decide +kernel
theorem dX0_judge_44 : decode cX0_judge 44 = .ok (.aload_n 0, 1) := by decide +kernel
theorem dX0_judge_45 : decode cX0_judge 45 = .ok (.dup, 1) := by decide +kernel
theorem dX0_judge_46 : decode cX0_judge 46 = .ok (.getfield 35, 3) := by decide +kernel
theorem dX0_judge_49 : decode cX0_judge 49 = .ok (.iconst 1, 1) := by decide +kernel
theorem dX0_judge_50 : decode cX0_judge 50 = .ok (.iadd, 1) := by decide +kernel
theorem dX0_judge_51 : decode cX0_judge 51 = .ok (.putfield 35, 3) := by decide +kernel
theorem dX0_judge_54 : decode cX0_judge 54 = .ok (.iinc 2 1, 3) := by decide +kernel
theorem dX0_judge_57 : decode cX0_judge 57 = .ok (.goto (-45), 3) := by decide +kernel
theorem dX0_judge_60 : decode cX0_judge 60 = .ok (.aload_n 0, 1) := by decide +kernel
theorem dX0_judge_61 : decode cX0_judge 61 = .ok (.iconst 1, 1) := by decide +kernel
theorem dX0_judge_62 : decode cX0_judge 62 = .ok (.putfield 28, 3) := by decide +kernel
theorem dX0_judge_65 : decode cX0_judge 65 = .ok (.aload_n 0, 1) := by decide +kernel
theorem dX0_judge_66 : decode cX0_judge 66 = .ok (.aload_n 1, 1) := by decide +kernel
theorem dX0_judge_67 : decode cX0_judge 67 = .ok (.getfield 98, 3) := by decide +kernel
theorem dX0_judge_70 : decode cX0_judge 70 = .ok (.getfield 104, 3) := by decide +kernel
theorem dX0_judge_73 : decode cX0_judge 73 = .ok (.putfield 38, 3) := by decide +kernel
theorem dX0_judge_76 : decode cX0_judge 76 = .ok (.aload_n 0, 1) := by decide +kernel
theorem dX0_judge_77 : decode cX0_judge 77 = .ok (.aload_n 1, 1) := by decide +kernel
theorem dX0_judge_78 : decode cX0_judge 78 = .ok (.invokevirtual 109, 3) := by decide +kernel
theorem dX0_judge_81 : decode cX0_judge 81 = .ok (.putfield 41, 3) := by decide +kernel
theorem dX0_judge_84 : decode cX0_judge 84 = .ok (.aload_n 0, 1) := by decide +kernel
theorem dX0_judge_85 : decode cX0_judge 85 = .ok (.getfield 32, 3) := by decide +kernel
theorem dX0_judge_88 : decode cX0_judge 88 = .ok (.ifCond .ne 7, 3) := by decide +kernel
theorem dX0_judge_91 : decode cX0_judge 91 = .ok (.iconst (-1), 1) := by decide +kernel
theorem dX0_judge_92 : decode cX0_judge 92 = .ok (.goto 7, 3) := by decide +kernel
theorem dX0_judge_95 : decode cX0_judge 95 = .ok (.aload_n 0, 1) := by decide +kernel
theorem dX0_judge_96 : decode cX0_judge 96 = .ok (.getfield 35, 3) := by decide +kernel
theorem dX0_judge_99 : decode cX0_judge 99 = .ok (.ireturn, 1) := by decide +kernel
theorem dX0_liveLine_0 : decode cX0_liveLine 0 = .ok (.aload_n 0, 1) := by decide +kernel
theorem dX0_liveLine_1 : decode cX0_liveLine 1 = .ok (.getfield 15, 3) := by decide +kernel
theorem dX0_liveLine_4 : decode cX0_liveLine 4 = .ok (.iload_n 2, 1) := by decide +kernel
theorem dX0_liveLine_5 : decode cX0_liveLine 5 = .ok (.iaload, 1) := by decide +kernel
theorem dX0_liveLine_6 : decode cX0_liveLine 6 = .ok (.istore_n 3, 1) := by decide +kernel
theorem dX0_liveLine_7 : decode cX0_liveLine 7 = .ok (.aload_n 0, 1) := by decide +kernel
theorem dX0_liveLine_8 : decode cX0_liveLine 8 = .ok (.getfield 18, 3) := by decide +kernel
theorem dX0_liveLine_11 : decode cX0_liveLine 11 = .ok (.iload_n 2, 1) := by decide +kernel
theorem dX0_liveLine_12 : decode cX0_liveLine 12 = .ok (.iaload, 1) := by decide +kernel
theorem dX0_liveLine_13 : decode cX0_liveLine 13 = .ok (.istore 4, 2) := by decide +kernel
theorem dX0_liveLine_15 : decode cX0_liveLine 15 = .ok (.aload_n 0, 1) := by decide +kernel
theorem dX0_liveLine_16 : decode cX0_liveLine 16 = .ok (.getfield 9, 3) := by decide +kernel
theorem dX0_liveLine_19 : decode cX0_liveLine 19 = .ok (.iload_n 2, 1) := by decide +kernel
theorem dX0_liveLine_20 : decode cX0_liveLine 20 = .ok (.iaload, 1) := by decide +kernel
theorem dX0_liveLine_21 : decode cX0_liveLine 21 = .ok (.tableswitch 88 9 12 #[75, 31, 49, 62], 31) := by decide +kernel
theorem dX0_liveLine_52 : decode cX0_liveLine 52 = .ok (.aload_n 1, 1) := by decide +kernel
theorem dX0_liveLine_53 : decode cX0_liveLine 53 = .ok (.iload_n 3, 1) := by decide +kernel
theorem dX0_liveLine_54 : decode cX0_liveLine 54 = .ok (.iload 4, 2) := by decide +kernel
theorem dX0_liveLine_56 : decode cX0_liveLine 56 = .ok (.aload_n 0, 1) := by decide +kernel
theorem dX0_liveLine_57 : decode cX0_liveLine 57 = .ok (.getfield 21, 3) := by decide +kernel
theorem dX0_liveLine_60 : decode cX0_liveLine 60 = .ok (.iload_n 2, 1) := by decide +kernel
theorem dX0_liveLine_61 : decode cX0_liveLine 61 = .ok (.iaload, 1) := by decide +kernel
theorem dX0_liveLine_62 : decode cX0_liveLine 62 = .ok (.invokevirtual 113, 3) := by decide +kernel
theorem dX0_liveLine_65 : decode cX0_liveLine 65 = .ok (.iconst 0, 1) := by decide +kernel
theorem dX0_liveLine_66 : decode cX0_liveLine 66 = .ok (.invokestatic 117, 3) := by decide +kernel
theorem dX0_liveLine_69 : decode cX0_liveLine 69 = .ok (.ireturn, 1) := by decide +kernel
theorem dX0_liveLine_70 : decode cX0_liveLine 70 = .ok (.aload_n 1, 1) := by decide +kernel
theorem dX0_liveLine_71 : decode cX0_liveLine 71 = .ok (.iload_n 3, 1) := by decide +kernel
theorem dX0_liveLine_72 : decode cX0_liveLine 72 = .ok (.iload 4, 2) := by decide +kernel
theorem dX0_liveLine_74 : decode cX0_liveLine 74 = .ok (.invokevirtual 120, 3) := by decide +kernel
theorem dX0_liveLine_77 : decode cX0_liveLine 77 = .ok (.bipush 10, 2) := by decide +kernel
theorem dX0_liveLine_79 : decode cX0_liveLine 79 = .ok (.invokestatic 117, 3) := by decide +kernel
theorem dX0_liveLine_82 : decode cX0_liveLine 82 = .ok (.ireturn, 1) := by decide +kernel
theorem dX0_liveLine_83 : decode cX0_liveLine 83 = .ok (.aload_n 1, 1) := by decide +kernel
theorem dX0_liveLine_84 : decode cX0_liveLine 84 = .ok (.iload_n 3, 1) := by decide +kernel
theorem dX0_liveLine_85 : decode cX0_liveLine 85 = .ok (.iload 4, 2) := by decide +kernel
theorem dX0_liveLine_87 : decode cX0_liveLine 87 = .ok (.invokevirtual 123, 3) := by decide +kernel
theorem dX0_liveLine_90 : decode cX0_liveLine 90 = .ok (.bipush 20, 2) := by decide +kernel
theorem dX0_liveLine_92 : decode cX0_liveLine 92 = .ok (.invokestatic 117, 3) := by decide +kernel
theorem dX0_liveLine_95 : decode cX0_liveLine 95 = .ok (.ireturn, 1) := by decide +kernel
theorem dX0_liveLine_96 : decode cX0_liveLine 96 = .ok (.aload_n 1, 1) := by decide +kernel
theorem dX0_liveLine_97 : decode cX0_liveLine 97 = .ok (.iload_n 3, 1) := by decide +kernel
theorem dX0_liveLine_98 : decode cX0_liveLine 98 = .ok (.iload 4, 2) := by decide +kernel
theorem dX0_liveLine_100 : decode cX0_liveLine 100 = .ok (.invokevirtual 126, 3) := by decide +kernel
theorem dX0_liveLine_103 : decode cX0_liveLine 103 = .ok (.bipush 30, 2) := by decide +kernel
theorem dX0_liveLine_105 : decode cX0_liveLine 105 = .ok (.invokestatic 117, 3) := by decide +kernel
theorem dX0_liveLine_108 : decode cX0_liveLine 108 = .ok (.ireturn, 1) := by decide +kernel
theorem dX0_liveLine_109 : decode cX0_liveLine 109 = .ok (.aload_n 1, 1) := by decide +kernel
theorem dX0_liveLine_110 : decode cX0_liveLine 110 = .ok (.iload_n 3, 1) := by decide +kernel
theorem dX0_liveLine_111 : decode cX0_liveLine 111 = .ok (.iload 4, 2) := by decide +kernel
theorem dX0_liveLine_113 : decode cX0_liveLine 113 = .ok (.invokevirtual 129, 3) := by decide +kernel
theorem dX0_liveLine_116 : decode cX0_liveLine 116 = .ok (.bipush 40, 2) := by decide +kernel
theorem dX0_liveLine_118 : decode cX0_liveLine 118 = .ok (.invokestatic 117, 3) := by decide +kernel
theorem dX0_liveLine_121 : decode cX0_liveLine 121 = .ok (.ireturn, 1) := by decide +kernel
theorem dX0_whyOf_0 : decode cX0_whyOf 0 = .ok (.iload_n 0, 1) := by decide +kernel
theorem dX0_whyOf_1 : decode cX0_whyOf 1 = .ok (.ifCond .ne 7, 3) := by decide +kernel
theorem dX0_whyOf_4 : decode cX0_whyOf 4 = .ok (.iconst 0, 1) := by decide +kernel
theorem dX0_whyOf_5 : decode cX0_whyOf 5 = .ok (.goto 6, 3) := by decide +kernel
theorem dX0_whyOf_8 : decode cX0_whyOf 8 = .ok (.iload_n 1, 1) := by decide +kernel
theorem dX0_whyOf_9 : decode cX0_whyOf 9 = .ok (.iload_n 0, 1) := by decide +kernel
theorem dX0_whyOf_10 : decode cX0_whyOf 10 = .ok (.iadd, 1) := by decide +kernel
theorem dX0_whyOf_11 : decode cX0_whyOf 11 = .ok (.ireturn, 1) := by decide +kernel
theorem dX0_tell_0 : decode cX0_tell 0 = .ok (.aload_n 0, 1) := by decide +kernel
theorem dX0_tell_1 : decode cX0_tell 1 = .ok (.getfield 28, 3) := by decide +kernel
theorem dX0_tell_4 : decode cX0_tell 4 = .ok (.ifCond .ne 5, 3) := by decide +kernel
theorem dX0_tell_7 : decode cX0_tell 7 = .ok (.iconst (-1), 1) := by decide +kernel
theorem dX0_tell_8 : decode cX0_tell 8 = .ok (.ireturn, 1) := by decide +kernel
theorem dX0_tell_9 : decode cX0_tell 9 = .ok (.iload_n 1, 1) := by decide +kernel
theorem dX0_tell_10 : decode cX0_tell 10 = .ok (.tableswitch 50 0 3 #[30, 35, 40, 45], 30) := by decide +kernel
theorem dX0_tell_40 : decode cX0_tell 40 = .ok (.aload_n 0, 1) := by decide +kernel
theorem dX0_tell_41 : decode cX0_tell 41 = .ok (.getfield 32, 3) := by decide +kernel
theorem dX0_tell_44 : decode cX0_tell 44 = .ok (.ireturn, 1) := by decide +kernel
theorem dX0_tell_45 : decode cX0_tell 45 = .ok (.aload_n 0, 1) := by decide +kernel
theorem dX0_tell_46 : decode cX0_tell 46 = .ok (.getfield 35, 3) := by decide +kernel
theorem dX0_tell_49 : decode cX0_tell 49 = .ok (.ireturn, 1) := by decide +kernel
theorem dX0_tell_50 : decode cX0_tell 50 = .ok (.aload_n 0, 1) := by decide +kernel
theorem dX0_tell_51 : decode cX0_tell 51 = .ok (.getfield 38, 3) := by decide +kernel
theorem dX0_tell_54 : decode cX0_tell 54 = .ok (.ireturn, 1) := by decide +kernel
theorem dX0_tell_55 : decode cX0_tell 55 = .ok (.aload_n 0, 1) := by decide +kernel
theorem dX0_tell_56 : decode cX0_tell 56 = .ok (.getfield 41, 3) := by decide +kernel
theorem dX0_tell_59 : decode cX0_tell 59 = .ok (.ireturn, 1) := by decide +kernel
theorem dX0_tell_60 : decode cX0_tell 60 = .ok (.iconst (-1), 1) := by decide +kernel
theorem dX0_tell_61 : decode cX0_tell 61 = .ok (.ireturn, 1) := by decide +kernel
theorem dX1_init_0 : decode cX1_init 0 = .ok (.aload_n 0, 1) := by decide +kernel
theorem dX1_init_1 : decode cX1_init 1 = .ok (.invokespecial 3, 3) := by decide +kernel
theorem dX1_init_4 : decode cX1_init 4 = .ok (.aload_n 0, 1) := by decide +kernel
theorem dX1_init_5 : decode cX1_init 5 = .ok (.iconst 0, 1) := by decide +kernel
theorem dX1_init_6 : decode cX1_init 6 = .ok (.putfield 9, 3) := by decide +kernel
theorem dX1_init_9 : decode cX1_init 9 = .ok (.aload_n 0, 1) := by decide +kernel
theorem dX1_init_10 : decode cX1_init 10 = .ok (.aload_n 1, 1) := by decide +kernel
theorem dX1_init_11 : decode cX1_init 11 = .ok (.putfield 15, 3) := by decide +kernel
theorem dX1_init_14 : decode cX1_init 14 = .ok (.aload_n 0, 1) := by decide +kernel
theorem dX1_init_15 : decode cX1_init 15 = .ok (.aload_n 2, 1) := by decide +kernel
theorem dX1_init_16 : decode cX1_init 16 = .ok (.getfield 19, 3) := by decide +kernel
theorem dX1_init_19 : decode cX1_init 19 = .ok (.putfield 25, 3) := by decide +kernel
theorem dX1_init_22 : decode cX1_init 22 = .ok (.aload_n 0, 1) := by decide +kernel
theorem dX1_init_23 : decode cX1_init 23 = .ok (.aload_n 2, 1) := by decide +kernel
theorem dX1_init_24 : decode cX1_init 24 = .ok (.getfield 26, 3) := by decide +kernel
theorem dX1_init_27 : decode cX1_init 27 = .ok (.putfield 30, 3) := by decide +kernel
theorem dX1_init_30 : decode cX1_init 30 = .ok (.return_, 1) := by decide +kernel
theorem dX1_read_0 : decode cX1_read 0 = .ok (.aload_n 0, 1) := by decide +kernel
theorem dX1_read_1 : decode cX1_read 1 = .ok (.getfield 25, 3) := by decide +kernel
theorem dX1_read_4 : decode cX1_read 4 = .ok (.invokevirtual 31, 3) := by decide +kernel
theorem dX1_read_7 : decode cX1_read 7 = .ok (.aload_n 0, 1) := by decide +kernel
theorem dX1_read_8 : decode cX1_read 8 = .ok (.getfield 30, 3) := by decide +kernel
theorem dX1_read_11 : decode cX1_read 11 = .ok (.invokevirtual 36, 3) := by decide +kernel
theorem dX1_read_14 : decode cX1_read 14 = .ok (.aload_n 0, 1) := by decide +kernel
theorem dX1_read_15 : decode cX1_read 15 = .ok (.iconst 0, 1) := by decide +kernel
theorem dX1_read_16 : decode cX1_read 16 = .ok (.putfield 9, 3) := by decide +kernel
theorem dX1_read_19 : decode cX1_read 19 = .ok (.iconst 0, 1) := by decide +kernel
theorem dX1_read_20 : decode cX1_read 20 = .ok (.istore_n 1, 1) := by decide +kernel
theorem dX1_read_21 : decode cX1_read 21 = .ok (.iload_n 1, 1) := by decide +kernel
theorem dX1_read_22 : decode cX1_read 22 = .ok (.sipush 940, 3) := by decide +kernel
theorem dX1_read_25 : decode cX1_read 25 = .ok (.if_icmp .ge 28, 3) := by decide +kernel
theorem dX1_read_28 : decode cX1_read 28 = .ok (.aload_n 0, 1) := by decide +kernel
theorem dX1_read_29 : decode cX1_read 29 = .ok (.getfield 15, 3) := by decide +kernel
theorem dX1_read_32 : decode cX1_read 32 = .ok (.getfield 39, 3) := by decide +kernel
theorem dX1_read_35 : decode cX1_read 35 = .ok (.ifCond .eq 18, 3) := by decide +kernel
theorem dX1_read_38 : decode cX1_read 38 = .ok (.aload_n 0, 1) := by decide +kernel
theorem dX1_read_39 : decode cX1_read 39 = .ok (.invokevirtual 44, 3) := by decide +kernel
theorem dX1_read_42 : decode cX1_read 42 = .ok (.ifCond .ne 5, 3) := by decide +kernel
theorem dX1_read_45 : decode cX1_read 45 = .ok (.iconst 0, 1) := by decide +kernel
theorem dX1_read_46 : decode cX1_read 46 = .ok (.ireturn, 1) := by decide +kernel
theorem dX1_read_47 : decode cX1_read 47 = .ok (.iinc 1 1, 3) := by decide +kernel
theorem dX1_read_50 : decode cX1_read 50 = .ok (.goto (-29), 3) := by decide +kernel
theorem dX1_read_53 : decode cX1_read 53 = .ok (.aload_n 0, 1) := by decide +kernel
theorem dX1_read_54 : decode cX1_read 54 = .ok (.getfield 25, 3) := by decide +kernel
theorem dX1_read_57 : decode cX1_read 57 = .ok (.invokevirtual 48, 3) := by decide +kernel
theorem dX1_read_60 : decode cX1_read 60 = .ok (.aload_n 0, 1) := by decide +kernel
theorem dX1_read_61 : decode cX1_read 61 = .ok (.getfield 15, 3) := by decide +kernel
theorem dX1_read_64 : decode cX1_read 64 = .ok (.invokevirtual 51, 3) := by decide +kernel
theorem dX1_read_67 : decode cX1_read 67 = .ok (.ireturn, 1) := by decide +kernel
theorem dX1_readLine_0 : decode cX1_readLine 0 = .ok (.aload_n 0, 1) := by decide +kernel
theorem dX1_readLine_1 : decode cX1_readLine 1 = .ok (.getfield 15, 3) := by decide +kernel
theorem dX1_readLine_4 : decode cX1_readLine 4 = .ok (.getfield 54, 3) := by decide +kernel
theorem dX1_readLine_7 : decode cX1_readLine 7 = .ok (.tableswitch 175 0 9 #[53, 53, 53, 175, 175, 175, 83, 106, 129, 152], 53) := by decide +kernel
theorem dX1_readLine_60 : decode cX1_readLine 60 = .ok (.aload_n 0, 1) := by decide +kernel
theorem dX1_readLine_61 : decode cX1_readLine 61 = .ok (.aload_n 0, 1) := by decide +kernel
theorem dX1_readLine_62 : decode cX1_readLine 62 = .ok (.getfield 15, 3) := by decide +kernel
theorem dX1_readLine_65 : decode cX1_readLine 65 = .ok (.getfield 54, 3) := by decide +kernel
theorem dX1_readLine_68 : decode cX1_readLine 68 = .ok (.invokevirtual 57, 3) := by decide +kernel
theorem dX1_readLine_71 : decode cX1_readLine 71 = .ok (.ifCond .eq 17, 3) := by decide +kernel
theorem dX1_readLine_74 : decode cX1_readLine 74 = .ok (.aload_n 0, 1) := by decide +kernel
theorem dX1_readLine_75 : decode cX1_readLine 75 = .ok (.getfield 15, 3) := by decide +kernel
theorem dX1_readLine_78 : decode cX1_readLine 78 = .ok (.invokevirtual 61, 3) := by decide +kernel
theorem dX1_readLine_81 : decode cX1_readLine 81 = .ok (.ifCond .eq 7, 3) := by decide +kernel
theorem dX1_readLine_84 : decode cX1_readLine 84 = .ok (.iconst 1, 1) := by decide +kernel
theorem dX1_readLine_85 : decode cX1_readLine 85 = .ok (.goto 4, 3) := by decide +kernel
theorem dX1_readLine_88 : decode cX1_readLine 88 = .ok (.iconst 0, 1) := by decide +kernel
theorem dX1_readLine_89 : decode cX1_readLine 89 = .ok (.ireturn, 1) := by decide +kernel
theorem dX1_readLine_90 : decode cX1_readLine 90 = .ok (.aload_n 0, 1) := by decide +kernel
theorem dX1_readLine_91 : decode cX1_readLine 91 = .ok (.invokevirtual 64, 3) := by decide +kernel
theorem dX1_readLine_94 : decode cX1_readLine 94 = .ok (.ifCond .eq 17, 3) := by decide +kernel
theorem dX1_readLine_97 : decode cX1_readLine 97 = .ok (.aload_n 0, 1) := by decide +kernel
theorem dX1_readLine_98 : decode cX1_readLine 98 = .ok (.getfield 15, 3) := by decide +kernel
theorem dX1_readLine_101 : decode cX1_readLine 101 = .ok (.invokevirtual 61, 3) := by decide +kernel
theorem dX1_readLine_104 : decode cX1_readLine 104 = .ok (.ifCond .eq 7, 3) := by decide +kernel
theorem dX1_readLine_107 : decode cX1_readLine 107 = .ok (.iconst 1, 1) := by decide +kernel
theorem dX1_readLine_108 : decode cX1_readLine 108 = .ok (.goto 4, 3) := by decide +kernel
theorem dX1_readLine_111 : decode cX1_readLine 111 = .ok (.iconst 0, 1) := by decide +kernel
theorem dX1_readLine_112 : decode cX1_readLine 112 = .ok (.ireturn, 1) := by decide +kernel
theorem dX1_readLine_113 : decode cX1_readLine 113 = .ok (.aload_n 0, 1) := by decide +kernel
theorem dX1_readLine_114 : decode cX1_readLine 114 = .ok (.invokevirtual 67, 3) := by decide +kernel
theorem dX1_readLine_117 : decode cX1_readLine 117 = .ok (.ifCond .eq 17, 3) := by decide +kernel
theorem dX1_readLine_120 : decode cX1_readLine 120 = .ok (.aload_n 0, 1) := by decide +kernel
theorem dX1_readLine_121 : decode cX1_readLine 121 = .ok (.getfield 15, 3) := by decide +kernel
theorem dX1_readLine_124 : decode cX1_readLine 124 = .ok (.invokevirtual 61, 3) := by decide +kernel
theorem dX1_readLine_127 : decode cX1_readLine 127 = .ok (.ifCond .eq 7, 3) := by decide +kernel
theorem dX1_readLine_130 : decode cX1_readLine 130 = .ok (.iconst 1, 1) := by decide +kernel
theorem dX1_readLine_131 : decode cX1_readLine 131 = .ok (.goto 4, 3) := by decide +kernel
theorem dX1_readLine_134 : decode cX1_readLine 134 = .ok (.iconst 0, 1) := by decide +kernel
theorem dX1_readLine_135 : decode cX1_readLine 135 = .ok (.ireturn, 1) := by decide +kernel
theorem dX1_readLine_136 : decode cX1_readLine 136 = .ok (.aload_n 0, 1) := by decide +kernel
theorem dX1_readLine_137 : decode cX1_readLine 137 = .ok (.invokevirtual 70, 3) := by decide +kernel
theorem dX1_readLine_140 : decode cX1_readLine 140 = .ok (.ifCond .eq 17, 3) := by decide +kernel
theorem dX1_readLine_143 : decode cX1_readLine 143 = .ok (.aload_n 0, 1) := by decide +kernel
theorem dX1_readLine_144 : decode cX1_readLine 144 = .ok (.getfield 15, 3) := by decide +kernel
theorem dX1_readLine_147 : decode cX1_readLine 147 = .ok (.invokevirtual 61, 3) := by decide +kernel
theorem dX1_readLine_150 : decode cX1_readLine 150 = .ok (.ifCond .eq 7, 3) := by decide +kernel
theorem dX1_readLine_153 : decode cX1_readLine 153 = .ok (.iconst 1, 1) := by decide +kernel
theorem dX1_readLine_154 : decode cX1_readLine 154 = .ok (.goto 4, 3) := by decide +kernel
theorem dX1_readLine_157 : decode cX1_readLine 157 = .ok (.iconst 0, 1) := by decide +kernel
theorem dX1_readLine_158 : decode cX1_readLine 158 = .ok (.ireturn, 1) := by decide +kernel
theorem dX1_readLine_159 : decode cX1_readLine 159 = .ok (.aload_n 0, 1) := by decide +kernel
theorem dX1_readLine_160 : decode cX1_readLine 160 = .ok (.invokevirtual 73, 3) := by decide +kernel
theorem dX1_readLine_163 : decode cX1_readLine 163 = .ok (.ifCond .eq 17, 3) := by decide +kernel
theorem dX1_readLine_166 : decode cX1_readLine 166 = .ok (.aload_n 0, 1) := by decide +kernel
theorem dX1_readLine_167 : decode cX1_readLine 167 = .ok (.getfield 15, 3) := by decide +kernel
theorem dX1_readLine_170 : decode cX1_readLine 170 = .ok (.invokevirtual 61, 3) := by decide +kernel
theorem dX1_readLine_173 : decode cX1_readLine 173 = .ok (.ifCond .eq 7, 3) := by decide +kernel
theorem dX1_readLine_176 : decode cX1_readLine 176 = .ok (.iconst 1, 1) := by decide +kernel
theorem dX1_readLine_177 : decode cX1_readLine 177 = .ok (.goto 4, 3) := by decide +kernel
theorem dX1_readLine_180 : decode cX1_readLine 180 = .ok (.iconst 0, 1) := by decide +kernel
theorem dX1_readLine_181 : decode cX1_readLine 181 = .ok (.ireturn, 1) := by decide +kernel
theorem dX1_readLine_182 : decode cX1_readLine 182 = .ok (.aload_n 0, 1) := by decide +kernel
theorem dX1_readLine_183 : decode cX1_readLine 183 = .ok (.getfield 15, 3) := by decide +kernel
theorem dX1_readLine_186 : decode cX1_readLine 186 = .ok (.iconst 1, 1) := by decide +kernel
theorem dX1_readLine_187 : decode cX1_readLine 187 = .ok (.invokevirtual 76, 3) := by decide +kernel
theorem dX1_readLine_190 : decode cX1_readLine 190 = .ok (.ireturn, 1) := by decide +kernel
theorem dX1_readSetting_0 : decode cX1_readSetting 0 = .ok (.aload_n 0, 1) := by decide +kernel
theorem dX1_readSetting_1 : decode cX1_readSetting 1 = .ok (.getfield 9, 3) := by decide +kernel
theorem dX1_readSetting_4 : decode cX1_readSetting 4 = .ok (.iload_n 1, 1) := by decide +kernel
theorem dX1_readSetting_5 : decode cX1_readSetting 5 = .ok (.iushr, 1) := by decide +kernel
theorem dX1_readSetting_6 : decode cX1_readSetting 6 = .ok (.iconst 1, 1) := by decide +kernel
theorem dX1_readSetting_7 : decode cX1_readSetting 7 = .ok (.iand, 1) := by decide +kernel
theorem dX1_readSetting_8 : decode cX1_readSetting 8 = .ok (.ifCond .ne 13, 3) := by decide +kernel
theorem dX1_readSetting_11 : decode cX1_readSetting 11 = .ok (.aload_n 0, 1) := by decide +kernel
theorem dX1_readSetting_12 : decode cX1_readSetting 12 = .ok (.getfield 25, 3) := by decide +kernel
theorem dX1_readSetting_15 : decode cX1_readSetting 15 = .ok (.getfield 79, 3) := by decide +kernel
theorem dX1_readSetting_18 : decode cX1_readSetting 18 = .ok (.ifCond .le 12, 3) := by decide +kernel
theorem dX1_readSetting_21 : decode cX1_readSetting 21 = .ok (.aload_n 0, 1) := by decide +kernel
theorem dX1_readSetting_22 : decode cX1_readSetting 22 = .ok (.getfield 15, 3) := by decide +kernel
theorem dX1_readSetting_25 : decode cX1_readSetting 25 = .ok (.iconst 3, 1) := by decide +kernel
theorem dX1_readSetting_26 : decode cX1_readSetting 26 = .ok (.invokevirtual 76, 3) := by decide +kernel
theorem dX1_readSetting_29 : decode cX1_readSetting 29 = .ok (.ireturn, 1) := by decide +kernel
theorem dX1_readSetting_30 : decode cX1_readSetting 30 = .ok (.aload_n 0, 1) := by decide +kernel
theorem dX1_readSetting_31 : decode cX1_readSetting 31 = .ok (.dup, 1) := by decide +kernel
theorem dX1_readSetting_32 : decode cX1_readSetting 32 = .ok (.getfield 9, 3) := by decide +kernel
theorem dX1_readSetting_35 : decode cX1_readSetting 35 = .ok (.iconst 1, 1) := by decide +kernel
theorem dX1_readSetting_36 : decode cX1_readSetting 36 = .ok (.iload_n 1, 1) := by decide +kernel
theorem dX1_readSetting_37 : decode cX1_readSetting 37 = .ok (.ishl, 1) := by decide +kernel
theorem dX1_readSetting_38 : decode cX1_readSetting 38 = .ok (.ior, 1) := by decide +kernel
theorem dX1_readSetting_39 : decode cX1_readSetting 39 = .ok (.putfield 9, 3) := by decide +kernel
theorem dX1_readSetting_42 : decode cX1_readSetting 42 = .ok (.aload_n 0, 1) := by decide +kernel
theorem dX1_readSetting_43 : decode cX1_readSetting 43 = .ok (.getfield 15, 3) := by decide +kernel
theorem dX1_readSetting_46 : decode cX1_readSetting 46 = .ok (.invokevirtual 82, 3) := by decide +kernel
theorem dX1_readSetting_49 : decode cX1_readSetting 49 = .ok (.iload_n 1, 1) := by decide +kernel
theorem dX1_readSetting_50 : decode cX1_readSetting 50 = .ok (.iconst 2, 1) := by decide +kernel
theorem dX1_readSetting_51 : decode cX1_readSetting 51 = .ok (.if_icmp .ne 8, 3) := by decide +kernel
theorem dX1_readSetting_54 : decode cX1_readSetting 54 = .ok (.aload_n 0, 1) := by decide +kernel
theorem dX1_readSetting_55 : decode cX1_readSetting 55 = .ok (.invokevirtual 85, 3) := by decide +kernel
theorem dX1_readSetting_58 : decode cX1_readSetting 58 = .ok (.ireturn, 1) := by decide +kernel
theorem dX1_readSetting_59 : decode cX1_readSetting 59 = .ok (.aload_n 0, 1) := by decide +kernel
theorem dX1_readSetting_60 : decode cX1_readSetting 60 = .ok (.getfield 15, 3) := by decide +kernel
theorem dX1_readSetting_63 : decode cX1_readSetting 63 = .ok (.iconst 1, 1) := by decide +kernel
theorem dX1_readSetting_64 : decode cX1_readSetting 64 = .ok (.iload_n 1, 1) := by decide +kernel
theorem dX1_readSetting_65 : decode cX1_readSetting 65 = .ok (.ifCond .ne 7, 3) := by decide +kernel
theorem dX1_readSetting_68 : decode cX1_readSetting 68 = .ok (.iconst 4, 1) := by decide +kernel
theorem dX1_readSetting_69 : decode cX1_readSetting 69 = .ok (.goto 5, 3) := by decide +kernel
theorem dX1_readSetting_72 : decode cX1_readSetting 72 = .ok (.bipush 12, 2) := by decide +kernel
theorem dX1_readSetting_74 : decode cX1_readSetting 74 = .ok (.invokevirtual 88, 3) := by decide +kernel
theorem dX1_readSetting_77 : decode cX1_readSetting 77 = .ok (.istore_n 2, 1) := by decide +kernel
theorem dX1_readSetting_78 : decode cX1_readSetting 78 = .ok (.iload_n 2, 1) := by decide +kernel
theorem dX1_readSetting_79 : decode cX1_readSetting 79 = .ok (.iconst (-1), 1) := by decide +kernel
theorem dX1_readSetting_80 : decode cX1_readSetting 80 = .ok (.if_icmp .ne 5, 3) := by decide +kernel
theorem dX1_readSetting_83 : decode cX1_readSetting 83 = .ok (.iconst 0, 1) := by decide +kernel
theorem dX1_readSetting_84 : decode cX1_readSetting 84 = .ok (.ireturn, 1) := by decide +kernel
theorem dX1_readSetting_85 : decode cX1_readSetting 85 = .ok (.aload_n 0, 1) := by decide +kernel
theorem dX1_readSetting_86 : decode cX1_readSetting 86 = .ok (.getfield 15, 3) := by decide +kernel
theorem dX1_readSetting_89 : decode cX1_readSetting 89 = .ok (.invokevirtual 82, 3) := by decide +kernel
theorem dX1_readSetting_92 : decode cX1_readSetting 92 = .ok (.iload_n 1, 1) := by decide +kernel
theorem dX1_readSetting_93 : decode cX1_readSetting 93 = .ok (.ifCond .ne 14, 3) := by decide +kernel
theorem dX1_readSetting_96 : decode cX1_readSetting 96 = .ok (.aload_n 0, 1) := by decide +kernel
theorem dX1_readSetting_97 : decode cX1_readSetting 97 = .ok (.getfield 25, 3) := by decide +kernel
theorem dX1_readSetting_100 : decode cX1_readSetting 100 = .ok (.iload_n 2, 1) := by decide +kernel
theorem dX1_readSetting_101 : decode cX1_readSetting 101 = .ok (.putfield 92, 3) := by decide +kernel
theorem dX1_readSetting_104 : decode cX1_readSetting 104 = .ok (.goto 11, 3) := by decide +kernel
theorem dX1_readSetting_107 : decode cX1_readSetting 107 = .ok (.aload_n 0, 1) := by decide +kernel
theorem dX1_readSetting_108 : decode cX1_readSetting 108 = .ok (.getfield 25, 3) := by decide +kernel
theorem dX1_readSetting_111 : decode cX1_readSetting 111 = .ok (.iload_n 2, 1) := by decide +kernel
theorem dX1_readSetting_112 : decode cX1_readSetting 112 = .ok (.putfield 95, 3) := by decide +kernel
theorem dX1_readSetting_115 : decode cX1_readSetting 115 = .ok (.iconst 1, 1) := by decide +kernel
theorem dX1_readSetting_116 : decode cX1_readSetting 116 = .ok (.ireturn, 1) := by decide +kernel
theorem dX1_readRule_0 : decode cX1_readRule 0 = .ok (.aload_n 0, 1) := by decide +kernel
theorem dX1_readRule_1 : decode cX1_readRule 1 = .ok (.getfield 15, 3) := by decide +kernel
theorem dX1_readRule_4 : decode cX1_readRule 4 = .ok (.getfield 54, 3) := by decide +kernel
theorem dX1_readRule_7 : decode cX1_readRule 7 = .ok (.iconst 3, 1) := by decide +kernel
theorem dX1_readRule_8 : decode cX1_readRule 8 = .ok (.if_icmp .lt 14, 3) := by decide +kernel
theorem dX1_readRule_11 : decode cX1_readRule 11 = .ok (.aload_n 0, 1) := by decide +kernel
theorem dX1_readRule_12 : decode cX1_readRule 12 = .ok (.getfield 15, 3) := by decide +kernel
theorem dX1_readRule_15 : decode cX1_readRule 15 = .ok (.getfield 54, 3) := by decide +kernel
theorem dX1_readRule_18 : decode cX1_readRule 18 = .ok (.iconst 5, 1) := by decide +kernel
theorem dX1_readRule_19 : decode cX1_readRule 19 = .ok (.if_icmp .le 12, 3) := by decide +kernel
theorem dX1_readRule_22 : decode cX1_readRule 22 = .ok (.aload_n 0, 1) := by decide +kernel
theorem dX1_readRule_23 : decode cX1_readRule 23 = .ok (.getfield 15, 3) := by decide +kernel
theorem dX1_readRule_26 : decode cX1_readRule 26 = .ok (.iconst 1, 1) := by decide +kernel
theorem dX1_readRule_27 : decode cX1_readRule 27 = .ok (.invokevirtual 76, 3) := by decide +kernel
theorem dX1_readRule_30 : decode cX1_readRule 30 = .ok (.ireturn, 1) := by decide +kernel
theorem dX1_readRule_31 : decode cX1_readRule 31 = .ok (.aload_n 0, 1) := by decide +kernel
theorem dX1_readRule_32 : decode cX1_readRule 32 = .ok (.getfield 25, 3) := by decide +kernel
theorem dX1_readRule_35 : decode cX1_readRule 35 = .ok (.aload_n 0, 1) := by decide +kernel
theorem dX1_readRule_36 : decode cX1_readRule 36 = .ok (.getfield 15, 3) := by decide +kernel
theorem dX1_readRule_39 : decode cX1_readRule 39 = .ok (.getfield 54, 3) := by decide +kernel
theorem dX1_readRule_42 : decode cX1_readRule 42 = .ok (.iconst 3, 1) := by decide +kernel
theorem dX1_readRule_43 : decode cX1_readRule 43 = .ok (.isub, 1) := by decide +kernel
theorem dX1_readRule_44 : decode cX1_readRule 44 = .ok (.putfield 98, 3) := by decide +kernel
theorem dX1_readRule_47 : decode cX1_readRule 47 = .ok (.aload_n 0, 1) := by decide +kernel
theorem dX1_readRule_48 : decode cX1_readRule 48 = .ok (.getfield 15, 3) := by decide +kernel
theorem dX1_readRule_51 : decode cX1_readRule 51 = .ok (.invokevirtual 82, 3) := by decide +kernel
theorem dX1_readRule_54 : decode cX1_readRule 54 = .ok (.iconst 1, 1) := by decide +kernel
theorem dX1_readRule_55 : decode cX1_readRule 55 = .ok (.ireturn, 1) := by decide +kernel
theorem dX1_readKey_0 : decode cX1_readKey 0 = .ok (.aload_n 0, 1) := by decide +kernel
theorem dX1_readKey_1 : decode cX1_readKey 1 = .ok (.getfield 25, 3) := by decide +kernel
theorem dX1_readKey_4 : decode cX1_readKey 4 = .ok (.getfield 79, 3) := by decide +kernel
theorem dX1_readKey_7 : decode cX1_readKey 7 = .ok (.bipush 24, 2) := by decide +kernel
theorem dX1_readKey_9 : decode cX1_readKey 9 = .ok (.if_icmp .lt 12, 3) := by decide +kernel
theorem dX1_readKey_12 : decode cX1_readKey 12 = .ok (.aload_n 0, 1) := by decide +kernel
theorem dX1_readKey_13 : decode cX1_readKey 13 = .ok (.getfield 15, 3) := by decide +kernel
theorem dX1_readKey_16 : decode cX1_readKey 16 = .ok (.iconst 4, 1) := by decide +kernel
theorem dX1_readKey_17 : decode cX1_readKey 17 = .ok (.invokevirtual 76, 3) := by decide +kernel
theorem dX1_readKey_20 : decode cX1_readKey 20 = .ok (.ireturn, 1) := by decide +kernel
theorem dX1_readKey_21 : decode cX1_readKey 21 = .ok (.aload_n 0, 1) := by decide +kernel
theorem dX1_readKey_22 : decode cX1_readKey 22 = .ok (.getfield 15, 3) := by decide +kernel
theorem dX1_readKey_25 : decode cX1_readKey 25 = .ok (.invokevirtual 82, 3) := by decide +kernel
theorem dX1_readKey_28 : decode cX1_readKey 28 = .ok (.aload_n 0, 1) := by decide +kernel
theorem dX1_readKey_29 : decode cX1_readKey 29 = .ok (.invokevirtual 101, 3) := by decide +kernel
theorem dX1_readKey_32 : decode cX1_readKey 32 = .ok (.ifCond .ne 5, 3) := by decide +kernel
theorem dX1_readKey_35 : decode cX1_readKey 35 = .ok (.iconst 0, 1) := by decide +kernel
theorem dX1_readKey_36 : decode cX1_readKey 36 = .ok (.ireturn, 1) := by decide +kernel
theorem dX1_readKey_37 : decode cX1_readKey 37 = .ok (.aload_n 0, 1) := by decide +kernel
theorem dX1_readKey_38 : decode cX1_readKey 38 = .ok (.getfield 25, 3) := by decide +kernel
theorem dX1_readKey_41 : decode cX1_readKey 41 = .ok (.getfield 104, 3) := by decide +kernel
theorem dX1_readKey_44 : decode cX1_readKey 44 = .ok (.aload_n 0, 1) := by decide +kernel
theorem dX1_readKey_45 : decode cX1_readKey 45 = .ok (.getfield 25, 3) := by decide +kernel
theorem dX1_readKey_48 : decode cX1_readKey 48 = .ok (.getfield 79, 3) := by decide +kernel
theorem dX1_readKey_51 : decode cX1_readKey 51 = .ok (.aload_n 0, 1) := by decide +kernel
theorem dX1_readKey_52 : decode cX1_readKey 52 = .ok (.getfield 15, 3) := by decide +kernel
theorem dX1_readKey_55 : decode cX1_readKey 55 = .ok (.getfield 108, 3) := by decide +kernel
theorem dX1_readKey_58 : decode cX1_readKey 58 = .ok (.lastore, 1) := by decide +kernel
theorem dX1_readKey_59 : decode cX1_readKey 59 = .ok (.aload_n 0, 1) := by decide +kernel
theorem dX1_readKey_60 : decode cX1_readKey 60 = .ok (.getfield 25, 3) := by decide +kernel
theorem dX1_readKey_63 : decode cX1_readKey 63 = .ok (.dup, 1) := by decide +kernel
theorem dX1_readKey_64 : decode cX1_readKey 64 = .ok (.getfield 79, 3) := by decide +kernel
theorem dX1_readKey_67 : decode cX1_readKey 67 = .ok (.iconst 1, 1) := by decide +kernel
theorem dX1_readKey_68 : decode cX1_readKey 68 = .ok (.iadd, 1) := by decide +kernel
theorem dX1_readKey_69 : decode cX1_readKey 69 = .ok (.putfield 79, 3) := by decide +kernel
theorem dX1_readKey_72 : decode cX1_readKey 72 = .ok (.aload_n 0, 1) := by decide +kernel
theorem dX1_readKey_73 : decode cX1_readKey 73 = .ok (.getfield 15, 3) := by decide +kernel
theorem dX1_readKey_76 : decode cX1_readKey 76 = .ok (.invokevirtual 82, 3) := by decide +kernel
theorem dX1_readKey_79 : decode cX1_readKey 79 = .ok (.iconst 1, 1) := by decide +kernel
theorem dX1_readKey_80 : decode cX1_readKey 80 = .ok (.ireturn, 1) := by decide +kernel
theorem dX1_readPeer_0 : decode cX1_readPeer 0 = .ok (.aload_n 0, 1) := by decide +kernel
theorem dX1_readPeer_1 : decode cX1_readPeer 1 = .ok (.getfield 25, 3) := by decide +kernel
theorem dX1_readPeer_4 : decode cX1_readPeer 4 = .ok (.getfield 112, 3) := by decide +kernel
theorem dX1_readPeer_7 : decode cX1_readPeer 7 = .ok (.iconst 4, 1) := by decide +kernel
theorem dX1_readPeer_8 : decode cX1_readPeer 8 = .ok (.if_icmp .lt 12, 3) := by decide +kernel
theorem dX1_readPeer_11 : decode cX1_readPeer 11 = .ok (.aload_n 0, 1) := by decide +kernel
theorem dX1_readPeer_12 : decode cX1_readPeer 12 = .ok (.getfield 15, 3) := by decide +kernel
theorem dX1_readPeer_15 : decode cX1_readPeer 15 = .ok (.iconst 4, 1) := by decide +kernel
theorem dX1_readPeer_16 : decode cX1_readPeer 16 = .ok (.invokevirtual 76, 3) := by decide +kernel
theorem dX1_readPeer_19 : decode cX1_readPeer 19 = .ok (.ireturn, 1) := by decide +kernel
theorem dX1_readPeer_20 : decode cX1_readPeer 20 = .ok (.aload_n 0, 1) := by decide +kernel
theorem dX1_readPeer_21 : decode cX1_readPeer 21 = .ok (.getfield 15, 3) := by decide +kernel
theorem dX1_readPeer_24 : decode cX1_readPeer 24 = .ok (.invokevirtual 82, 3) := by decide +kernel
theorem dX1_readPeer_27 : decode cX1_readPeer 27 = .ok (.aload_n 0, 1) := by decide +kernel
theorem dX1_readPeer_28 : decode cX1_readPeer 28 = .ok (.invokevirtual 101, 3) := by decide +kernel
theorem dX1_readPeer_31 : decode cX1_readPeer 31 = .ok (.ifCond .ne 5, 3) := by decide +kernel
theorem dX1_readPeer_34 : decode cX1_readPeer 34 = .ok (.iconst 0, 1) := by decide +kernel
theorem dX1_readPeer_35 : decode cX1_readPeer 35 = .ok (.ireturn, 1) := by decide +kernel
theorem dX1_readPeer_36 : decode cX1_readPeer 36 = .ok (.aload_n 0, 1) := by decide +kernel
theorem dX1_readPeer_37 : decode cX1_readPeer 37 = .ok (.getfield 25, 3) := by decide +kernel
theorem dX1_readPeer_40 : decode cX1_readPeer 40 = .ok (.getfield 115, 3) := by decide +kernel
theorem dX1_readPeer_43 : decode cX1_readPeer 43 = .ok (.aload_n 0, 1) := by decide +kernel
theorem dX1_readPeer_44 : decode cX1_readPeer 44 = .ok (.getfield 25, 3) := by decide +kernel
theorem dX1_readPeer_47 : decode cX1_readPeer 47 = .ok (.getfield 112, 3) := by decide +kernel
theorem dX1_readPeer_50 : decode cX1_readPeer 50 = .ok (.aload_n 0, 1) := by decide +kernel
theorem dX1_readPeer_51 : decode cX1_readPeer 51 = .ok (.getfield 15, 3) := by decide +kernel
theorem dX1_readPeer_54 : decode cX1_readPeer 54 = .ok (.getfield 108, 3) := by decide +kernel
theorem dX1_readPeer_57 : decode cX1_readPeer 57 = .ok (.lastore, 1) := by decide +kernel
theorem dX1_readPeer_58 : decode cX1_readPeer 58 = .ok (.aload_n 0, 1) := by decide +kernel
theorem dX1_readPeer_59 : decode cX1_readPeer 59 = .ok (.getfield 25, 3) := by decide +kernel
theorem dX1_readPeer_62 : decode cX1_readPeer 62 = .ok (.dup, 1) := by decide +kernel
theorem dX1_readPeer_63 : decode cX1_readPeer 63 = .ok (.getfield 112, 3) := by decide +kernel
theorem dX1_readPeer_66 : decode cX1_readPeer 66 = .ok (.iconst 1, 1) := by decide +kernel
theorem dX1_readPeer_67 : decode cX1_readPeer 67 = .ok (.iadd, 1) := by decide +kernel
theorem dX1_readPeer_68 : decode cX1_readPeer 68 = .ok (.putfield 112, 3) := by decide +kernel
theorem dX1_readPeer_71 : decode cX1_readPeer 71 = .ok (.aload_n 0, 1) := by decide +kernel
theorem dX1_readPeer_72 : decode cX1_readPeer 72 = .ok (.getfield 15, 3) := by decide +kernel
theorem dX1_readPeer_75 : decode cX1_readPeer 75 = .ok (.invokevirtual 82, 3) := by decide +kernel
theorem dX1_readPeer_78 : decode cX1_readPeer 78 = .ok (.iconst 1, 1) := by decide +kernel
theorem dX1_readPeer_79 : decode cX1_readPeer 79 = .ok (.ireturn, 1) := by decide +kernel
theorem dX1_isNewName_0 : decode cX1_isNewName 0 = .ok (.aload_n 0, 1) := by decide +kernel
theorem dX1_isNewName_1 : decode cX1_isNewName 1 = .ok (.getfield 15, 3) := by decide +kernel
theorem dX1_isNewName_4 : decode cX1_isNewName 4 = .ok (.getfield 39, 3) := by decide +kernel
theorem dX1_isNewName_7 : decode cX1_isNewName 7 = .ok (.iconst 3, 1) := by decide +kernel
theorem dX1_isNewName_8 : decode cX1_isNewName 8 = .ok (.if_icmp .eq 12, 3) := by decide +kernel
theorem dX1_isNewName_11 : decode cX1_isNewName 11 = .ok (.aload_n 0, 1) := by decide +kernel
theorem dX1_isNewName_12 : decode cX1_isNewName 12 = .ok (.getfield 15, 3) := by decide +kernel
theorem dX1_isNewName_15 : decode cX1_isNewName 15 = .ok (.iconst 1, 1) := by decide +kernel
theorem dX1_isNewName_16 : decode cX1_isNewName 16 = .ok (.invokevirtual 76, 3) := by decide +kernel
theorem dX1_isNewName_19 : decode cX1_isNewName 19 = .ok (.ireturn, 1) := by decide +kernel
theorem dX1_isNewName_20 : decode cX1_isNewName 20 = .ok (.aload_n 0, 1) := by decide +kernel
theorem dX1_isNewName_21 : decode cX1_isNewName 21 = .ok (.getfield 25, 3) := by decide +kernel
theorem dX1_isNewName_24 : decode cX1_isNewName 24 = .ok (.aload_n 0, 1) := by decide +kernel
theorem dX1_isNewName_25 : decode cX1_isNewName 25 = .ok (.getfield 15, 3) := by decide +kernel
theorem dX1_isNewName_28 : decode cX1_isNewName 28 = .ok (.getfield 108, 3) := by decide +kernel
theorem dX1_isNewName_31 : decode cX1_isNewName 31 = .ok (.invokevirtual 118, 3) := by decide +kernel
theorem dX1_isNewName_34 : decode cX1_isNewName 34 = .ok (.ifCond .eq 14, 3) := by decide +kernel
theorem dX1_isNewName_37 : decode cX1_isNewName 37 = .ok (.aload_n 0, 1) := by decide +kernel
theorem dX1_isNewName_38 : decode cX1_isNewName 38 = .ok (.getfield 15, 3) := by decide +kernel
theorem dX1_isNewName_41 : decode cX1_isNewName 41 = .ok (.iconst 3, 1) := by decide +kernel
theorem dX1_isNewName_42 : decode cX1_isNewName 42 = .ok (.invokevirtual 76, 3) := by decide +kernel
theorem dX1_isNewName_45 : decode cX1_isNewName 45 = .ok (.ifCond .eq 7, 3) := by decide +kernel
theorem dX1_isNewName_48 : decode cX1_isNewName 48 = .ok (.iconst 1, 1) := by decide +kernel
theorem dX1_isNewName_49 : decode cX1_isNewName 49 = .ok (.goto 4, 3) := by decide +kernel
theorem dX1_isNewName_52 : decode cX1_isNewName 52 = .ok (.iconst 0, 1) := by decide +kernel
theorem dX1_isNewName_53 : decode cX1_isNewName 53 = .ok (.ireturn, 1) := by decide +kernel
theorem dX1_readHas_0 : decode cX1_readHas 0 = .ok (.aload_n 0, 1) := by decide +kernel
theorem dX1_readHas_1 : decode cX1_readHas 1 = .ok (.getfield 15, 3) := by decide +kernel
theorem dX1_readHas_4 : decode cX1_readHas 4 = .ok (.invokevirtual 82, 3) := by decide +kernel
theorem dX1_readHas_7 : decode cX1_readHas 7 = .ok (.aload_n 0, 1) := by decide +kernel
theorem dX1_readHas_8 : decode cX1_readHas 8 = .ok (.getfield 15, 3) := by decide +kernel
theorem dX1_readHas_11 : decode cX1_readHas 11 = .ok (.aload_n 0, 1) := by decide +kernel
theorem dX1_readHas_12 : decode cX1_readHas 12 = .ok (.getfield 25, 3) := by decide +kernel
theorem dX1_readHas_15 : decode cX1_readHas 15 = .ok (.invokevirtual 122, 3) := by decide +kernel
theorem dX1_readHas_18 : decode cX1_readHas 18 = .ok (.istore_n 1, 1) := by decide +kernel
theorem dX1_readHas_19 : decode cX1_readHas 19 = .ok (.iload_n 1, 1) := by decide +kernel
theorem dX1_readHas_20 : decode cX1_readHas 20 = .ok (.iconst (-1), 1) := by decide +kernel
theorem dX1_readHas_21 : decode cX1_readHas 21 = .ok (.if_icmp .ne 5, 3) := by decide +kernel
theorem dX1_readHas_24 : decode cX1_readHas 24 = .ok (.iconst 0, 1) := by decide +kernel
theorem dX1_readHas_25 : decode cX1_readHas 25 = .ok (.ireturn, 1) := by decide +kernel
theorem dX1_readHas_26 : decode cX1_readHas 26 = .ok (.aload_n 0, 1) := by decide +kernel
theorem dX1_readHas_27 : decode cX1_readHas 27 = .ok (.getfield 15, 3) := by decide +kernel
theorem dX1_readHas_30 : decode cX1_readHas 30 = .ok (.invokevirtual 82, 3) := by decide +kernel
theorem dX1_readHas_33 : decode cX1_readHas 33 = .ok (.aload_n 0, 1) := by decide +kernel
theorem dX1_readHas_34 : decode cX1_readHas 34 = .ok (.getfield 15, 3) := by decide +kernel
theorem dX1_readHas_37 : decode cX1_readHas 37 = .ok (.aload_n 0, 1) := by decide +kernel
theorem dX1_readHas_38 : decode cX1_readHas 38 = .ok (.getfield 25, 3) := by decide +kernel
theorem dX1_readHas_41 : decode cX1_readHas 41 = .ok (.invokevirtual 126, 3) := by decide +kernel
theorem dX1_readHas_44 : decode cX1_readHas 44 = .ok (.istore_n 2, 1) := by decide +kernel
theorem dX1_readHas_45 : decode cX1_readHas 45 = .ok (.iload_n 2, 1) := by decide +kernel
theorem dX1_readHas_46 : decode cX1_readHas 46 = .ok (.iconst (-1), 1) := by decide +kernel
theorem dX1_readHas_47 : decode cX1_readHas 47 = .ok (.if_icmp .ne 5, 3) := by decide +kernel
theorem dX1_readHas_50 : decode cX1_readHas 50 = .ok (.iconst 0, 1) := by decide +kernel
theorem dX1_readHas_51 : decode cX1_readHas 51 = .ok (.ireturn, 1) := by decide +kernel
theorem dX1_readHas_52 : decode cX1_readHas 52 = .ok (.aload_n 0, 1) := by decide +kernel
theorem dX1_readHas_53 : decode cX1_readHas 53 = .ok (.getfield 30, 3) := by decide +kernel
theorem dX1_readHas_56 : decode cX1_readHas 56 = .ok (.iload_n 1, 1) := by decide +kernel
theorem dX1_readHas_57 : decode cX1_readHas 57 = .ok (.iload_n 2, 1) := by decide +kernel
theorem dX1_readHas_58 : decode cX1_readHas 58 = .ok (.invokevirtual 129, 3) := by decide +kernel
theorem dX1_readHas_61 : decode cX1_readHas 61 = .ok (.ifCond .eq 12, 3) := by decide +kernel
theorem dX1_readHas_64 : decode cX1_readHas 64 = .ok (.aload_n 0, 1) := by decide +kernel
theorem dX1_readHas_65 : decode cX1_readHas 65 = .ok (.getfield 15, 3) := by decide +kernel
theorem dX1_readHas_68 : decode cX1_readHas 68 = .ok (.iconst 3, 1) := by decide +kernel
theorem dX1_readHas_69 : decode cX1_readHas 69 = .ok (.invokevirtual 76, 3) := by decide +kernel
theorem dX1_readHas_72 : decode cX1_readHas 72 = .ok (.ireturn, 1) := by decide +kernel
theorem dX1_readHas_73 : decode cX1_readHas 73 = .ok (.aload_n 0, 1) := by decide +kernel
theorem dX1_readHas_74 : decode cX1_readHas 74 = .ok (.getfield 15, 3) := by decide +kernel
theorem dX1_readHas_77 : decode cX1_readHas 77 = .ok (.invokevirtual 82, 3) := by decide +kernel
theorem dX1_readHas_80 : decode cX1_readHas 80 = .ok (.aload_n 0, 1) := by decide +kernel
theorem dX1_readHas_81 : decode cX1_readHas 81 = .ok (.getfield 15, 3) := by decide +kernel
theorem dX1_readHas_84 : decode cX1_readHas 84 = .ok (.iconst 0, 1) := by decide +kernel
theorem dX1_readHas_85 : decode cX1_readHas 85 = .ok (.sipush 999, 3) := by decide +kernel
theorem dX1_readHas_88 : decode cX1_readHas 88 = .ok (.invokevirtual 88, 3) := by decide +kernel
theorem dX1_readHas_91 : decode cX1_readHas 91 = .ok (.istore_n 3, 1) := by decide +kernel
theorem dX1_readHas_92 : decode cX1_readHas 92 = .ok (.iload_n 3, 1) := by decide +kernel
theorem dX1_readHas_93 : decode cX1_readHas 93 = .ok (.iconst (-1), 1) := by decide +kernel
theorem dX1_readHas_94 : decode cX1_readHas 94 = .ok (.if_icmp .ne 5, 3) := by decide +kernel
theorem dX1_readHas_97 : decode cX1_readHas 97 = .ok (.iconst 0, 1) := by decide +kernel
theorem dX1_readHas_98 : decode cX1_readHas 98 = .ok (.ireturn, 1) := by decide +kernel
theorem dX1_readHas_99 : decode cX1_readHas 99 = .ok (.aload_n 0, 1) := by decide +kernel
theorem dX1_readHas_100 : decode cX1_readHas 100 = .ok (.getfield 15, 3) := by decide +kernel
theorem dX1_readHas_103 : decode cX1_readHas 103 = .ok (.invokevirtual 82, 3) := by decide +kernel
theorem dX1_readHas_106 : decode cX1_readHas 106 = .ok (.aload_n 0, 1) := by decide +kernel
theorem dX1_readHas_107 : decode cX1_readHas 107 = .ok (.getfield 30, 3) := by decide +kernel
theorem dX1_readHas_110 : decode cX1_readHas 110 = .ok (.iload_n 1, 1) := by decide +kernel
theorem dX1_readHas_111 : decode cX1_readHas 111 = .ok (.iload_n 2, 1) := by decide +kernel
theorem dX1_readHas_112 : decode cX1_readHas 112 = .ok (.iload_n 3, 1) := by decide +kernel
theorem dX1_readHas_113 : decode cX1_readHas 113 = .ok (.invokevirtual 133, 3) := by decide +kernel
theorem dX1_readHas_116 : decode cX1_readHas 116 = .ok (.iconst 1, 1) := by decide +kernel
theorem dX1_readHas_117 : decode cX1_readHas 117 = .ok (.ireturn, 1) := by decide +kernel
theorem dX1_readCut_0 : decode cX1_readCut 0 = .ok (.aload_n 0, 1) := by decide +kernel
theorem dX1_readCut_1 : decode cX1_readCut 1 = .ok (.getfield 15, 3) := by decide +kernel
theorem dX1_readCut_4 : decode cX1_readCut 4 = .ok (.invokevirtual 82, 3) := by decide +kernel
theorem dX1_readCut_7 : decode cX1_readCut 7 = .ok (.aload_n 0, 1) := by decide +kernel
theorem dX1_readCut_8 : decode cX1_readCut 8 = .ok (.getfield 15, 3) := by decide +kernel
theorem dX1_readCut_11 : decode cX1_readCut 11 = .ok (.aload_n 0, 1) := by decide +kernel
theorem dX1_readCut_12 : decode cX1_readCut 12 = .ok (.getfield 25, 3) := by decide +kernel
theorem dX1_readCut_15 : decode cX1_readCut 15 = .ok (.invokevirtual 122, 3) := by decide +kernel
theorem dX1_readCut_18 : decode cX1_readCut 18 = .ok (.istore_n 1, 1) := by decide +kernel
theorem dX1_readCut_19 : decode cX1_readCut 19 = .ok (.iload_n 1, 1) := by decide +kernel
theorem dX1_readCut_20 : decode cX1_readCut 20 = .ok (.iconst (-1), 1) := by decide +kernel
theorem dX1_readCut_21 : decode cX1_readCut 21 = .ok (.if_icmp .ne 5, 3) := by decide +kernel
theorem dX1_readCut_24 : decode cX1_readCut 24 = .ok (.iconst 0, 1) := by decide +kernel
theorem dX1_readCut_25 : decode cX1_readCut 25 = .ok (.ireturn, 1) := by decide +kernel
theorem dX1_readCut_26 : decode cX1_readCut 26 = .ok (.aload_n 0, 1) := by decide +kernel
theorem dX1_readCut_27 : decode cX1_readCut 27 = .ok (.getfield 15, 3) := by decide +kernel
theorem dX1_readCut_30 : decode cX1_readCut 30 = .ok (.invokevirtual 82, 3) := by decide +kernel
theorem dX1_readCut_33 : decode cX1_readCut 33 = .ok (.aload_n 0, 1) := by decide +kernel
theorem dX1_readCut_34 : decode cX1_readCut 34 = .ok (.getfield 15, 3) := by decide +kernel
theorem dX1_readCut_37 : decode cX1_readCut 37 = .ok (.aload_n 0, 1) := by decide +kernel
theorem dX1_readCut_38 : decode cX1_readCut 38 = .ok (.getfield 25, 3) := by decide +kernel
theorem dX1_readCut_41 : decode cX1_readCut 41 = .ok (.invokevirtual 122, 3) := by decide +kernel
theorem dX1_readCut_44 : decode cX1_readCut 44 = .ok (.istore_n 2, 1) := by decide +kernel
theorem dX1_readCut_45 : decode cX1_readCut 45 = .ok (.iload_n 2, 1) := by decide +kernel
theorem dX1_readCut_46 : decode cX1_readCut 46 = .ok (.iconst (-1), 1) := by decide +kernel
theorem dX1_readCut_47 : decode cX1_readCut 47 = .ok (.if_icmp .ne 5, 3) := by decide +kernel
theorem dX1_readCut_50 : decode cX1_readCut 50 = .ok (.iconst 0, 1) := by decide +kernel
theorem dX1_readCut_51 : decode cX1_readCut 51 = .ok (.ireturn, 1) := by decide +kernel
theorem dX1_readCut_52 : decode cX1_readCut 52 = .ok (.iload_n 1, 1) := by decide +kernel
theorem dX1_readCut_53 : decode cX1_readCut 53 = .ok (.iload_n 2, 1) := by decide +kernel
theorem dX1_readCut_54 : decode cX1_readCut 54 = .ok (.if_icmp .eq 15, 3) := by decide +kernel
theorem dX1_readCut_57 : decode cX1_readCut 57 = .ok (.aload_n 0, 1) := by decide +kernel
theorem dX1_readCut_58 : decode cX1_readCut 58 = .ok (.getfield 30, 3) := by decide +kernel
theorem dX1_readCut_61 : decode cX1_readCut 61 = .ok (.iload_n 1, 1) := by decide +kernel
theorem dX1_readCut_62 : decode cX1_readCut 62 = .ok (.iload_n 2, 1) := by decide +kernel
theorem dX1_readCut_63 : decode cX1_readCut 63 = .ok (.invokevirtual 137, 3) := by decide +kernel
theorem dX1_readCut_66 : decode cX1_readCut 66 = .ok (.ifCond .eq 12, 3) := by decide +kernel
theorem dX1_readCut_69 : decode cX1_readCut 69 = .ok (.aload_n 0, 1) := by decide +kernel
theorem dX1_readCut_70 : decode cX1_readCut 70 = .ok (.getfield 15, 3) := by decide +kernel
theorem dX1_readCut_73 : decode cX1_readCut 73 = .ok (.iconst 3, 1) := by decide +kernel
theorem dX1_readCut_74 : decode cX1_readCut 74 = .ok (.invokevirtual 76, 3) := by decide +kernel
theorem dX1_readCut_77 : decode cX1_readCut 77 = .ok (.ireturn, 1) := by decide +kernel
theorem dX1_readCut_78 : decode cX1_readCut 78 = .ok (.aload_n 0, 1) := by decide +kernel
theorem dX1_readCut_79 : decode cX1_readCut 79 = .ok (.getfield 30, 3) := by decide +kernel
theorem dX1_readCut_82 : decode cX1_readCut 82 = .ok (.iload_n 1, 1) := by decide +kernel
theorem dX1_readCut_83 : decode cX1_readCut 83 = .ok (.iload_n 2, 1) := by decide +kernel
theorem dX1_readCut_84 : decode cX1_readCut 84 = .ok (.invokevirtual 140, 3) := by decide +kernel
theorem dX1_readCut_87 : decode cX1_readCut 87 = .ok (.aload_n 0, 1) := by decide +kernel
theorem dX1_readCut_88 : decode cX1_readCut 88 = .ok (.getfield 15, 3) := by decide +kernel
theorem dX1_readCut_91 : decode cX1_readCut 91 = .ok (.invokevirtual 82, 3) := by decide +kernel
theorem dX1_readCut_94 : decode cX1_readCut 94 = .ok (.iconst 1, 1) := by decide +kernel
theorem dX1_readCut_95 : decode cX1_readCut 95 = .ok (.ireturn, 1) := by decide +kernel
theorem dX2_init_0 : decode cX2_init 0 = .ok (.aload_n 0, 1) := by decide +kernel
theorem dX2_init_1 : decode cX2_init 1 = .ok (.invokespecial 3, 3) := by decide +kernel
theorem dX2_init_4 : decode cX2_init 4 = .ok (.aload_n 0, 1) := by decide +kernel
theorem dX2_init_5 : decode cX2_init 5 = .ok (.iconst 0, 1) := by decide +kernel
theorem dX2_init_6 : decode cX2_init 6 = .ok (.putfield 9, 3) := by decide +kernel
theorem dX2_init_9 : decode cX2_init 9 = .ok (.aload_n 0, 1) := by decide +kernel
theorem dX2_init_10 : decode cX2_init 10 = .ok (.iconst 4, 1) := by decide +kernel
theorem dX2_init_11 : decode cX2_init 11 = .ok (.newarray .int, 2) := by decide +kernel
theorem dX2_init_13 : decode cX2_init 13 = .ok (.putfield 15, 3) := by decide +kernel
theorem dX2_init_16 : decode cX2_init 16 = .ok (.aload_n 0, 1) := by decide +kernel
theorem dX2_init_17 : decode cX2_init 17 = .ok (.iconst 4, 1) := by decide +kernel
theorem dX2_init_18 : decode cX2_init 18 = .ok (.newarray .int, 2) := by decide +kernel
theorem dX2_init_20 : decode cX2_init 20 = .ok (.putfield 19, 3) := by decide +kernel
theorem dX2_init_23 : decode cX2_init 23 = .ok (.aload_n 0, 1) := by decide +kernel
theorem dX2_init_24 : decode cX2_init 24 = .ok (.iconst 0, 1) := by decide +kernel
theorem dX2_init_25 : decode cX2_init 25 = .ok (.putfield 22, 3) := by decide +kernel
theorem dX2_init_28 : decode cX2_init 28 = .ok (.return_, 1) := by decide +kernel
theorem dX2_begin_0 : decode cX2_begin 0 = .ok (.aload_n 0, 1) := by decide +kernel
theorem dX2_begin_1 : decode cX2_begin 1 = .ok (.iload_n 1, 1) := by decide +kernel
theorem dX2_begin_2 : decode cX2_begin 2 = .ok (.putfield 9, 3) := by decide +kernel
theorem dX2_begin_5 : decode cX2_begin 5 = .ok (.iconst 0, 1) := by decide +kernel
theorem dX2_begin_6 : decode cX2_begin 6 = .ok (.istore_n 2, 1) := by decide +kernel
theorem dX2_begin_7 : decode cX2_begin 7 = .ok (.iload_n 2, 1) := by decide +kernel
theorem dX2_begin_8 : decode cX2_begin 8 = .ok (.aload_n 0, 1) := by decide +kernel
theorem dX2_begin_9 : decode cX2_begin 9 = .ok (.getfield 15, 3) := by decide +kernel
theorem dX2_begin_12 : decode cX2_begin 12 = .ok (.arraylength, 1) := by decide +kernel
theorem dX2_begin_13 : decode cX2_begin 13 = .ok (.if_icmp .ge 16, 3) := by decide +kernel
theorem dX2_begin_16 : decode cX2_begin 16 = .ok (.aload_n 0, 1) := by decide +kernel
theorem dX2_begin_17 : decode cX2_begin 17 = .ok (.getfield 15, 3) := by decide +kernel
theorem dX2_begin_20 : decode cX2_begin 20 = .ok (.iload_n 2, 1) := by decide +kernel
theorem dX2_begin_21 : decode cX2_begin 21 = .ok (.iconst 0, 1) := by decide +kernel
theorem dX2_begin_22 : decode cX2_begin 22 = .ok (.iastore, 1) := by decide +kernel
theorem dX2_begin_23 : decode cX2_begin 23 = .ok (.iinc 2 1, 3) := by decide +kernel
theorem dX2_begin_26 : decode cX2_begin 26 = .ok (.goto (-19), 3) := by decide +kernel
theorem dX2_begin_29 : decode cX2_begin 29 = .ok (.return_, 1) := by decide +kernel
theorem dX2_keepRefusals_0 : decode cX2_keepRefusals 0 = .ok (.aload_n 0, 1) := by decide +kernel
theorem dX2_keepRefusals_1 : decode cX2_keepRefusals 1 = .ok (.getfield 15, 3) := by decide +kernel
theorem dX2_keepRefusals_4 : decode cX2_keepRefusals 4 = .ok (.iconst 0, 1) := by decide +kernel
theorem dX2_keepRefusals_5 : decode cX2_keepRefusals 5 = .ok (.aload_n 0, 1) := by decide +kernel
theorem dX2_keepRefusals_6 : decode cX2_keepRefusals 6 = .ok (.getfield 19, 3) := by decide +kernel
theorem dX2_keepRefusals_9 : decode cX2_keepRefusals 9 = .ok (.iconst 0, 1) := by decide +kernel
theorem dX2_keepRefusals_10 : decode cX2_keepRefusals 10 = .ok (.iconst 4, 1) := by decide +kernel
theorem dX2_keepRefusals_11 : decode cX2_keepRefusals 11 = .ok (.invokestatic 26, 3) := by decide +kernel
theorem dX2_keepRefusals_14 : decode cX2_keepRefusals 14 = .ok (.aload_n 0, 1) := by decide +kernel
theorem dX2_keepRefusals_15 : decode cX2_keepRefusals 15 = .ok (.iconst 1, 1) := by decide +kernel
theorem dX2_keepRefusals_16 : decode cX2_keepRefusals 16 = .ok (.putfield 22, 3) := by decide +kernel
theorem dX2_keepRefusals_19 : decode cX2_keepRefusals 19 = .ok (.return_, 1) := by decide +kernel
theorem dX2_refusedBy_0 : decode cX2_refusedBy 0 = .ok (.aload_n 0, 1) := by decide +kernel
theorem dX2_refusedBy_1 : decode cX2_refusedBy 1 = .ok (.getfield 22, 3) := by decide +kernel
theorem dX2_refusedBy_4 : decode cX2_refusedBy 4 = .ok (.ifCond .eq 22, 3) := by decide +kernel
theorem dX2_refusedBy_7 : decode cX2_refusedBy 7 = .ok (.iload_n 1, 1) := by decide +kernel
theorem dX2_refusedBy_8 : decode cX2_refusedBy 8 = .ok (.iconst 1, 1) := by decide +kernel
theorem dX2_refusedBy_9 : decode cX2_refusedBy 9 = .ok (.if_icmp .lt 17, 3) := by decide +kernel
theorem dX2_refusedBy_12 : decode cX2_refusedBy 12 = .ok (.iload_n 1, 1) := by decide +kernel
theorem dX2_refusedBy_13 : decode cX2_refusedBy 13 = .ok (.iconst 3, 1) := by decide +kernel
theorem dX2_refusedBy_14 : decode cX2_refusedBy 14 = .ok (.if_icmp .gt 12, 3) := by decide +kernel
theorem dX2_refusedBy_17 : decode cX2_refusedBy 17 = .ok (.aload_n 0, 1) := by decide +kernel
theorem dX2_refusedBy_18 : decode cX2_refusedBy 18 = .ok (.getfield 19, 3) := by decide +kernel
theorem dX2_refusedBy_21 : decode cX2_refusedBy 21 = .ok (.iload_n 1, 1) := by decide +kernel
theorem dX2_refusedBy_22 : decode cX2_refusedBy 22 = .ok (.iaload, 1) := by decide +kernel
theorem dX2_refusedBy_23 : decode cX2_refusedBy 23 = .ok (.goto 4, 3) := by decide +kernel
theorem dX2_refusedBy_26 : decode cX2_refusedBy 26 = .ok (.iconst (-1), 1) := by decide +kernel
theorem dX2_refusedBy_27 : decode cX2_refusedBy 27 = .ok (.ireturn, 1) := by decide +kernel
theorem dX2_draw_0 : decode cX2_draw 0 = .ok (.aload_n 0, 1) := by decide +kernel
theorem dX2_draw_1 : decode cX2_draw 1 = .ok (.aload_n 0, 1) := by decide +kernel
theorem dX2_draw_2 : decode cX2_draw 2 = .ok (.getfield 9, 3) := by decide +kernel
theorem dX2_draw_5 : decode cX2_draw 5 = .ok (.ldc 32, 2) := by decide +kernel
theorem dX2_draw_7 : decode cX2_draw 7 = .ok (.imul, 1) := by decide +kernel
theorem dX2_draw_8 : decode cX2_draw 8 = .ok (.sipush 12345, 3) := by decide +kernel
theorem dX2_draw_11 : decode cX2_draw 11 = .ok (.iadd, 1) := by decide +kernel
theorem dX2_draw_12 : decode cX2_draw 12 = .ok (.putfield 9, 3) := by decide +kernel
theorem dX2_draw_15 : decode cX2_draw 15 = .ok (.iload_n 1, 1) := by decide +kernel
theorem dX2_draw_16 : decode cX2_draw 16 = .ok (.ifCond .le 15, 3) := by decide +kernel
theorem dX2_draw_19 : decode cX2_draw 19 = .ok (.aload_n 0, 1) := by decide +kernel
theorem dX2_draw_20 : decode cX2_draw 20 = .ok (.getfield 9, 3) := by decide +kernel
theorem dX2_draw_23 : decode cX2_draw 23 = .ok (.bipush 8, 2) := by decide +kernel
theorem dX2_draw_25 : decode cX2_draw 25 = .ok (.iushr, 1) := by decide +kernel
theorem dX2_draw_26 : decode cX2_draw 26 = .ok (.iload_n 1, 1) := by decide +kernel
theorem dX2_draw_27 : decode cX2_draw 27 = .ok (.irem, 1) := by decide +kernel
theorem dX2_draw_28 : decode cX2_draw 28 = .ok (.goto 4, 3) := by decide +kernel
theorem dX2_draw_31 : decode cX2_draw 31 = .ok (.iconst 0, 1) := by decide +kernel
theorem dX2_draw_32 : decode cX2_draw 32 = .ok (.ireturn, 1) := by decide +kernel
theorem dX2_runRounds_0 : decode cX2_runRounds 0 = .ok (.iconst 0, 1) := by decide +kernel
theorem dX2_runRounds_1 : decode cX2_runRounds 1 = .ok (.istore_n 3, 1) := by decide +kernel
theorem dX2_runRounds_2 : decode cX2_runRounds 2 = .ok (.iload_n 3, 1) := by decide +kernel
theorem dX2_runRounds_3 : decode cX2_runRounds 3 = .ok (.iload_n 2, 1) := by decide +kernel
theorem dX2_runRounds_4 : decode cX2_runRounds 4 = .ok (.if_icmp .ge 14, 3) := by decide +kernel
theorem dX2_runRounds_7 : decode cX2_runRounds 7 = .ok (.aload_n 0, 1) := by decide +kernel
theorem dX2_runRounds_8 : decode cX2_runRounds 8 = .ok (.aload_n 1, 1) := by decide +kernel
theorem dX2_runRounds_9 : decode cX2_runRounds 9 = .ok (.invokevirtual 33, 3) := by decide +kernel
theorem dX2_runRounds_12 : decode cX2_runRounds 12 = .ok (.iinc 3 1, 3) := by decide +kernel
theorem dX2_runRounds_15 : decode cX2_runRounds 15 = .ok (.goto (-13), 3) := by decide +kernel
theorem dX2_runRounds_18 : decode cX2_runRounds 18 = .ok (.return_, 1) := by decide +kernel
theorem dX2_runRound_0 : decode cX2_runRound 0 = .ok (.aload_n 0, 1) := by decide +kernel
theorem dX2_runRound_1 : decode cX2_runRound 1 = .ok (.bipush 8, 2) := by decide +kernel
theorem dX2_runRound_3 : decode cX2_runRound 3 = .ok (.invokevirtual 37, 3) := by decide +kernel
theorem dX2_runRound_6 : decode cX2_runRound 6 = .ok (.istore_n 2, 1) := by decide +kernel
theorem dX2_runRound_7 : decode cX2_runRound 7 = .ok (.aload_n 0, 1) := by decide +kernel
theorem dX2_runRound_8 : decode cX2_runRound 8 = .ok (.aload_n 1, 1) := by decide +kernel
theorem dX2_runRound_9 : decode cX2_runRound 9 = .ok (.getfield 41, 3) := by decide +kernel
theorem dX2_runRound_12 : decode cX2_runRound 12 = .ok (.getfield 47, 3) := by decide +kernel
theorem dX2_runRound_15 : decode cX2_runRound 15 = .ok (.invokevirtual 37, 3) := by decide +kernel
theorem dX2_runRound_18 : decode cX2_runRound 18 = .ok (.istore_n 3, 1) := by decide +kernel
theorem dX2_runRound_19 : decode cX2_runRound 19 = .ok (.iload_n 2, 1) := by decide +kernel
theorem dX2_runRound_20 : decode cX2_runRound 20 = .ok (.iconst 2, 1) := by decide +kernel
theorem dX2_runRound_21 : decode cX2_runRound 21 = .ok (.if_icmp .gt 49, 3) := by decide +kernel
theorem dX2_runRound_24 : decode cX2_runRound 24 = .ok (.aload_n 0, 1) := by decide +kernel
theorem dX2_runRound_25 : decode cX2_runRound 25 = .ok (.aload_n 1, 1) := by decide +kernel
theorem dX2_runRound_26 : decode cX2_runRound 26 = .ok (.getfield 41, 3) := by decide +kernel
theorem dX2_runRound_29 : decode cX2_runRound 29 = .ok (.getfield 52, 3) := by decide +kernel
theorem dX2_runRound_32 : decode cX2_runRound 32 = .ok (.invokevirtual 37, 3) := by decide +kernel
theorem dX2_runRound_35 : decode cX2_runRound 35 = .ok (.istore 4, 2) := by decide +kernel
theorem dX2_runRound_37 : decode cX2_runRound 37 = .ok (.aload_n 0, 1) := by decide +kernel
theorem dX2_runRound_38 : decode cX2_runRound 38 = .ok (.iload_n 2, 1) := by decide +kernel
theorem dX2_runRound_39 : decode cX2_runRound 39 = .ok (.iconst 2, 1) := by decide +kernel
theorem dX2_runRound_40 : decode cX2_runRound 40 = .ok (.if_icmp .ne 13, 3) := by decide +kernel
theorem dX2_runRound_43 : decode cX2_runRound 43 = .ok (.aload_n 1, 1) := by decide +kernel
theorem dX2_runRound_44 : decode cX2_runRound 44 = .ok (.iload_n 3, 1) := by decide +kernel
theorem dX2_runRound_45 : decode cX2_runRound 45 = .ok (.iload 4, 2) := by decide +kernel
theorem dX2_runRound_47 : decode cX2_runRound 47 = .ok (.invokevirtual 55, 3) := by decide +kernel
theorem dX2_runRound_50 : decode cX2_runRound 50 = .ok (.goto 16, 3) := by decide +kernel
theorem dX2_runRound_53 : decode cX2_runRound 53 = .ok (.aload_n 1, 1) := by decide +kernel
theorem dX2_runRound_54 : decode cX2_runRound 54 = .ok (.iload_n 3, 1) := by decide +kernel
theorem dX2_runRound_55 : decode cX2_runRound 55 = .ok (.iload 4, 2) := by decide +kernel
theorem dX2_runRound_57 : decode cX2_runRound 57 = .ok (.aload_n 0, 1) := by decide +kernel
theorem dX2_runRound_58 : decode cX2_runRound 58 = .ok (.bipush 10, 2) := by decide +kernel
theorem dX2_runRound_60 : decode cX2_runRound 60 = .ok (.invokevirtual 37, 3) := by decide +kernel
theorem dX2_runRound_63 : decode cX2_runRound 63 = .ok (.invokevirtual 59, 3) := by decide +kernel
theorem dX2_runRound_66 : decode cX2_runRound 66 = .ok (.invokevirtual 63, 3) := by decide +kernel
theorem dX2_runRound_69 : decode cX2_runRound 69 = .ok (.return_, 1) := by decide +kernel
theorem dX2_runRound_70 : decode cX2_runRound 70 = .ok (.aload_n 0, 1) := by decide +kernel
theorem dX2_runRound_71 : decode cX2_runRound 71 = .ok (.aload_n 1, 1) := by decide +kernel
theorem dX2_runRound_72 : decode cX2_runRound 72 = .ok (.getfield 41, 3) := by decide +kernel
theorem dX2_runRound_75 : decode cX2_runRound 75 = .ok (.getfield 47, 3) := by decide +kernel
theorem dX2_runRound_78 : decode cX2_runRound 78 = .ok (.invokevirtual 37, 3) := by decide +kernel
theorem dX2_runRound_81 : decode cX2_runRound 81 = .ok (.istore 4, 2) := by decide +kernel
theorem dX2_runRound_83 : decode cX2_runRound 83 = .ok (.iload_n 3, 1) := by decide +kernel
theorem dX2_runRound_84 : decode cX2_runRound 84 = .ok (.iload 4, 2) := by decide +kernel
theorem dX2_runRound_86 : decode cX2_runRound 86 = .ok (.if_icmp .ne 4, 3) := by decide +kernel
theorem dX2_runRound_89 : decode cX2_runRound 89 = .ok (.return_, 1) := by decide +kernel
theorem dX2_runRound_90 : decode cX2_runRound 90 = .ok (.iload_n 2, 1) := by decide +kernel
theorem dX2_runRound_91 : decode cX2_runRound 91 = .ok (.bipush 7, 2) := by decide +kernel
theorem dX2_runRound_93 : decode cX2_runRound 93 = .ok (.if_icmp .ne 16, 3) := by decide +kernel
theorem dX2_runRound_96 : decode cX2_runRound 96 = .ok (.aload_n 1, 1) := by decide +kernel
theorem dX2_runRound_97 : decode cX2_runRound 97 = .ok (.getfield 67, 3) := by decide +kernel
theorem dX2_runRound_100 : decode cX2_runRound 100 = .ok (.iload_n 3, 1) := by decide +kernel
theorem dX2_runRound_101 : decode cX2_runRound 101 = .ok (.iload 4, 2) := by decide +kernel
theorem dX2_runRound_103 : decode cX2_runRound 103 = .ok (.invokevirtual 71, 3) := by decide +kernel
theorem dX2_runRound_106 : decode cX2_runRound 106 = .ok (.goto 14, 3) := by decide +kernel
theorem dX2_runRound_109 : decode cX2_runRound 109 = .ok (.aload_n 0, 1) := by decide +kernel
theorem dX2_runRound_110 : decode cX2_runRound 110 = .ok (.aload_n 1, 1) := by decide +kernel
theorem dX2_runRound_111 : decode cX2_runRound 111 = .ok (.iload_n 3, 1) := by decide +kernel
theorem dX2_runRound_112 : decode cX2_runRound 112 = .ok (.iload 4, 2) := by decide +kernel
theorem dX2_runRound_114 : decode cX2_runRound 114 = .ok (.invokevirtual 77, 3) := by decide +kernel
theorem dX2_runRound_117 : decode cX2_runRound 117 = .ok (.invokevirtual 63, 3) := by decide +kernel
theorem dX2_runRound_120 : decode cX2_runRound 120 = .ok (.return_, 1) := by decide +kernel
theorem dX2_countRefusal_0 : decode cX2_countRefusal 0 = .ok (.iload_n 1, 1) := by decide +kernel
theorem dX2_countRefusal_1 : decode cX2_countRefusal 1 = .ok (.iconst 1, 1) := by decide +kernel
theorem dX2_countRefusal_2 : decode cX2_countRefusal 2 = .ok (.if_icmp .lt 18, 3) := by decide +kernel
theorem dX2_countRefusal_5 : decode cX2_countRefusal 5 = .ok (.iload_n 1, 1) := by decide +kernel
theorem dX2_countRefusal_6 : decode cX2_countRefusal 6 = .ok (.iconst 3, 1) := by decide +kernel
theorem dX2_countRefusal_7 : decode cX2_countRefusal 7 = .ok (.if_icmp .gt 13, 3) := by decide +kernel
theorem dX2_countRefusal_10 : decode cX2_countRefusal 10 = .ok (.aload_n 0, 1) := by decide +kernel
theorem dX2_countRefusal_11 : decode cX2_countRefusal 11 = .ok (.getfield 15, 3) := by decide +kernel
theorem dX2_countRefusal_14 : decode cX2_countRefusal 14 = .ok (.iload_n 1, 1) := by decide +kernel
theorem dX2_countRefusal_15 : decode cX2_countRefusal 15 = .ok (.dup2, 1) := by decide +kernel
theorem dX2_countRefusal_16 : decode cX2_countRefusal 16 = .ok (.iaload, 1) := by decide +kernel
theorem dX2_countRefusal_17 : decode cX2_countRefusal 17 = .ok (.iconst 1, 1) := by decide +kernel
theorem dX2_countRefusal_18 : decode cX2_countRefusal 18 = .ok (.iadd, 1) := by decide +kernel
theorem dX2_countRefusal_19 : decode cX2_countRefusal 19 = .ok (.iastore, 1) := by decide +kernel
theorem dX2_countRefusal_20 : decode cX2_countRefusal 20 = .ok (.return_, 1) := by decide +kernel
theorem dX3_init_0 : decode cX3_init 0 = .ok (.aload_n 0, 1) := by decide +kernel
theorem dX3_init_1 : decode cX3_init 1 = .ok (.invokespecial 3, 3) := by decide +kernel
theorem dX3_init_4 : decode cX3_init 4 = .ok (.aload_n 0, 1) := by decide +kernel
theorem dX3_init_5 : decode cX3_init 5 = .ok (.bipush 96, 2) := by decide +kernel
theorem dX3_init_7 : decode cX3_init 7 = .ok (.newarray .int, 2) := by decide +kernel
theorem dX3_init_9 : decode cX3_init 9 = .ok (.putfield 9, 3) := by decide +kernel
theorem dX3_init_12 : decode cX3_init 12 = .ok (.aload_n 0, 1) := by decide +kernel
theorem dX3_init_13 : decode cX3_init 13 = .ok (.bipush 96, 2) := by decide +kernel
theorem dX3_init_15 : decode cX3_init 15 = .ok (.newarray .int, 2) := by decide +kernel
theorem dX3_init_17 : decode cX3_init 17 = .ok (.putfield 15, 3) := by decide +kernel
theorem dX3_init_20 : decode cX3_init 20 = .ok (.aload_n 0, 1) := by decide +kernel
theorem dX3_init_21 : decode cX3_init 21 = .ok (.iconst 4, 1) := by decide +kernel
theorem dX3_init_22 : decode cX3_init 22 = .ok (.newarray .int, 2) := by decide +kernel
theorem dX3_init_24 : decode cX3_init 24 = .ok (.putfield 18, 3) := by decide +kernel
theorem dX3_init_27 : decode cX3_init 27 = .ok (.aload_n 0, 1) := by decide +kernel
theorem dX3_init_28 : decode cX3_init 28 = .ok (.iconst 4, 1) := by decide +kernel
theorem dX3_init_29 : decode cX3_init 29 = .ok (.newarray .int, 2) := by decide +kernel
theorem dX3_init_31 : decode cX3_init 31 = .ok (.putfield 21, 3) := by decide +kernel
theorem dX3_init_34 : decode cX3_init 34 = .ok (.aload_n 0, 1) := by decide +kernel
theorem dX3_init_35 : decode cX3_init 35 = .ok (.iconst 0, 1) := by decide +kernel
theorem dX3_init_36 : decode cX3_init 36 = .ok (.putfield 24, 3) := by decide +kernel
theorem dX3_init_39 : decode cX3_init 39 = .ok (.aload_n 0, 1) := by decide +kernel
theorem dX3_init_40 : decode cX3_init 40 = .ok (.iconst 0, 1) := by decide +kernel
theorem dX3_init_41 : decode cX3_init 41 = .ok (.putfield 28, 3) := by decide +kernel
theorem dX3_init_44 : decode cX3_init 44 = .ok (.aload_n 0, 1) := by decide +kernel
theorem dX3_init_45 : decode cX3_init 45 = .ok (.iconst 0, 1) := by decide +kernel
theorem dX3_init_46 : decode cX3_init 46 = .ok (.putfield 31, 3) := by decide +kernel
theorem dX3_init_49 : decode cX3_init 49 = .ok (.return_, 1) := by decide +kernel
theorem dX3_clear_0 : decode cX3_clear 0 = .ok (.iconst 0, 1) := by decide +kernel
theorem dX3_clear_1 : decode cX3_clear 1 = .ok (.istore_n 1, 1) := by decide +kernel
theorem dX3_clear_2 : decode cX3_clear 2 = .ok (.iload_n 1, 1) := by decide +kernel
theorem dX3_clear_3 : decode cX3_clear 3 = .ok (.aload_n 0, 1) := by decide +kernel
theorem dX3_clear_4 : decode cX3_clear 4 = .ok (.getfield 15, 3) := by decide +kernel
theorem dX3_clear_7 : decode cX3_clear 7 = .ok (.arraylength, 1) := by decide +kernel
theorem dX3_clear_8 : decode cX3_clear 8 = .ok (.if_icmp .ge 23, 3) := by decide +kernel
theorem dX3_clear_11 : decode cX3_clear 11 = .ok (.aload_n 0, 1) := by decide +kernel
theorem dX3_clear_12 : decode cX3_clear 12 = .ok (.getfield 15, 3) := by decide +kernel
theorem dX3_clear_15 : decode cX3_clear 15 = .ok (.iload_n 1, 1) := by decide +kernel
theorem dX3_clear_16 : decode cX3_clear 16 = .ok (.iconst 0, 1) := by decide +kernel
theorem dX3_clear_17 : decode cX3_clear 17 = .ok (.iastore, 1) := by decide +kernel
theorem dX3_clear_18 : decode cX3_clear 18 = .ok (.aload_n 0, 1) := by decide +kernel
theorem dX3_clear_19 : decode cX3_clear 19 = .ok (.getfield 9, 3) := by decide +kernel
theorem dX3_clear_22 : decode cX3_clear 22 = .ok (.iload_n 1, 1) := by decide +kernel
theorem dX3_clear_23 : decode cX3_clear 23 = .ok (.iconst 0, 1) := by decide +kernel
theorem dX3_clear_24 : decode cX3_clear 24 = .ok (.iastore, 1) := by decide +kernel
theorem dX3_clear_25 : decode cX3_clear 25 = .ok (.iinc 1 1, 3) := by decide +kernel
theorem dX3_clear_28 : decode cX3_clear 28 = .ok (.goto (-26), 3) := by decide +kernel
theorem dX3_clear_31 : decode cX3_clear 31 = .ok (.iconst 0, 1) := by decide +kernel
theorem dX3_clear_32 : decode cX3_clear 32 = .ok (.istore_n 1, 1) := by decide +kernel
theorem dX3_clear_33 : decode cX3_clear 33 = .ok (.iload_n 1, 1) := by decide +kernel
theorem dX3_clear_34 : decode cX3_clear 34 = .ok (.iconst 4, 1) := by decide +kernel
theorem dX3_clear_35 : decode cX3_clear 35 = .ok (.if_icmp .ge 23, 3) := by decide +kernel
theorem dX3_clear_38 : decode cX3_clear 38 = .ok (.aload_n 0, 1) := by decide +kernel
theorem dX3_clear_39 : decode cX3_clear 39 = .ok (.getfield 18, 3) := by decide +kernel
theorem dX3_clear_42 : decode cX3_clear 42 = .ok (.iload_n 1, 1) := by decide +kernel
theorem dX3_clear_43 : decode cX3_clear 43 = .ok (.iconst 0, 1) := by decide +kernel
theorem dX3_clear_44 : decode cX3_clear 44 = .ok (.iastore, 1) := by decide +kernel
theorem dX3_clear_45 : decode cX3_clear 45 = .ok (.aload_n 0, 1) := by decide +kernel
theorem dX3_clear_46 : decode cX3_clear 46 = .ok (.getfield 21, 3) := by decide +kernel
theorem dX3_clear_49 : decode cX3_clear 49 = .ok (.iload_n 1, 1) := by decide +kernel
theorem dX3_clear_50 : decode cX3_clear 50 = .ok (.iconst 0, 1) := by decide +kernel
theorem dX3_clear_51 : decode cX3_clear 51 = .ok (.iastore, 1) := by decide +kernel
theorem dX3_clear_52 : decode cX3_clear 52 = .ok (.iinc 1 1, 3) := by decide +kernel
theorem dX3_clear_55 : decode cX3_clear 55 = .ok (.goto (-22), 3) := by decide +kernel
theorem dX3_clear_58 : decode cX3_clear 58 = .ok (.aload_n 0, 1) := by decide +kernel
theorem dX3_clear_59 : decode cX3_clear 59 = .ok (.iconst 0, 1) := by decide +kernel
theorem dX3_clear_60 : decode cX3_clear 60 = .ok (.putfield 24, 3) := by decide +kernel
theorem dX3_clear_63 : decode cX3_clear 63 = .ok (.aload_n 0, 1) := by decide +kernel
theorem dX3_clear_64 : decode cX3_clear 64 = .ok (.iconst 0, 1) := by decide +kernel
theorem dX3_clear_65 : decode cX3_clear 65 = .ok (.putfield 28, 3) := by decide +kernel
theorem dX3_clear_68 : decode cX3_clear 68 = .ok (.aload_n 0, 1) := by decide +kernel
theorem dX3_clear_69 : decode cX3_clear 69 = .ok (.iconst 0, 1) := by decide +kernel
theorem dX3_clear_70 : decode cX3_clear 70 = .ok (.putfield 31, 3) := by decide +kernel
theorem dX3_clear_73 : decode cX3_clear 73 = .ok (.return_, 1) := by decide +kernel
theorem dX3_copyFrom_0 : decode cX3_copyFrom 0 = .ok (.aload_n 1, 1) := by decide +kernel
theorem dX3_copyFrom_1 : decode cX3_copyFrom 1 = .ok (.getfield 9, 3) := by decide +kernel
theorem dX3_copyFrom_4 : decode cX3_copyFrom 4 = .ok (.iconst 0, 1) := by decide +kernel
theorem dX3_copyFrom_5 : decode cX3_copyFrom 5 = .ok (.aload_n 0, 1) := by decide +kernel
theorem dX3_copyFrom_6 : decode cX3_copyFrom 6 = .ok (.getfield 9, 3) := by decide +kernel
theorem dX3_copyFrom_9 : decode cX3_copyFrom 9 = .ok (.iconst 0, 1) := by decide +kernel
theorem dX3_copyFrom_10 : decode cX3_copyFrom 10 = .ok (.bipush 96, 2) := by decide +kernel
theorem dX3_copyFrom_12 : decode cX3_copyFrom 12 = .ok (.invokestatic 34, 3) := by decide +kernel
theorem dX3_copyFrom_15 : decode cX3_copyFrom 15 = .ok (.aload_n 1, 1) := by decide +kernel
theorem dX3_copyFrom_16 : decode cX3_copyFrom 16 = .ok (.getfield 15, 3) := by decide +kernel
theorem dX3_copyFrom_19 : decode cX3_copyFrom 19 = .ok (.iconst 0, 1) := by decide +kernel
theorem dX3_copyFrom_20 : decode cX3_copyFrom 20 = .ok (.aload_n 0, 1) := by decide +kernel
theorem dX3_copyFrom_21 : decode cX3_copyFrom 21 = .ok (.getfield 15, 3) := by decide +kernel
theorem dX3_copyFrom_24 : decode cX3_copyFrom 24 = .ok (.iconst 0, 1) := by decide +kernel
theorem dX3_copyFrom_25 : decode cX3_copyFrom 25 = .ok (.bipush 96, 2) := by decide +kernel
theorem dX3_copyFrom_27 : decode cX3_copyFrom 27 = .ok (.invokestatic 34, 3) := by decide +kernel
theorem dX3_copyFrom_30 : decode cX3_copyFrom 30 = .ok (.aload_n 1, 1) := by decide +kernel
theorem dX3_copyFrom_31 : decode cX3_copyFrom 31 = .ok (.getfield 18, 3) := by decide +kernel
theorem dX3_copyFrom_34 : decode cX3_copyFrom 34 = .ok (.iconst 0, 1) := by decide +kernel
theorem dX3_copyFrom_35 : decode cX3_copyFrom 35 = .ok (.aload_n 0, 1) := by decide +kernel
theorem dX3_copyFrom_36 : decode cX3_copyFrom 36 = .ok (.getfield 18, 3) := by decide +kernel
theorem dX3_copyFrom_39 : decode cX3_copyFrom 39 = .ok (.iconst 0, 1) := by decide +kernel
theorem dX3_copyFrom_40 : decode cX3_copyFrom 40 = .ok (.iconst 4, 1) := by decide +kernel
theorem dX3_copyFrom_41 : decode cX3_copyFrom 41 = .ok (.invokestatic 34, 3) := by decide +kernel
theorem dX3_copyFrom_44 : decode cX3_copyFrom 44 = .ok (.aload_n 1, 1) := by decide +kernel
theorem dX3_copyFrom_45 : decode cX3_copyFrom 45 = .ok (.getfield 21, 3) := by decide +kernel
theorem dX3_copyFrom_48 : decode cX3_copyFrom 48 = .ok (.iconst 0, 1) := by decide +kernel
theorem dX3_copyFrom_49 : decode cX3_copyFrom 49 = .ok (.aload_n 0, 1) := by decide +kernel
theorem dX3_copyFrom_50 : decode cX3_copyFrom 50 = .ok (.getfield 21, 3) := by decide +kernel
theorem dX3_copyFrom_53 : decode cX3_copyFrom 53 = .ok (.iconst 0, 1) := by decide +kernel
theorem dX3_copyFrom_54 : decode cX3_copyFrom 54 = .ok (.iconst 4, 1) := by decide +kernel
theorem dX3_copyFrom_55 : decode cX3_copyFrom 55 = .ok (.invokestatic 34, 3) := by decide +kernel
theorem dX3_copyFrom_58 : decode cX3_copyFrom 58 = .ok (.aload_n 0, 1) := by decide +kernel
theorem dX3_copyFrom_59 : decode cX3_copyFrom 59 = .ok (.aload_n 1, 1) := by decide +kernel
theorem dX3_copyFrom_60 : decode cX3_copyFrom 60 = .ok (.getfield 24, 3) := by decide +kernel
theorem dX3_copyFrom_63 : decode cX3_copyFrom 63 = .ok (.putfield 24, 3) := by decide +kernel
theorem dX3_copyFrom_66 : decode cX3_copyFrom 66 = .ok (.aload_n 0, 1) := by decide +kernel
theorem dX3_copyFrom_67 : decode cX3_copyFrom 67 = .ok (.aload_n 1, 1) := by decide +kernel
theorem dX3_copyFrom_68 : decode cX3_copyFrom 68 = .ok (.getfield 28, 3) := by decide +kernel
theorem dX3_copyFrom_71 : decode cX3_copyFrom 71 = .ok (.putfield 28, 3) := by decide +kernel
theorem dX3_copyFrom_74 : decode cX3_copyFrom 74 = .ok (.aload_n 0, 1) := by decide +kernel
theorem dX3_copyFrom_75 : decode cX3_copyFrom 75 = .ok (.aload_n 1, 1) := by decide +kernel
theorem dX3_copyFrom_76 : decode cX3_copyFrom 76 = .ok (.getfield 31, 3) := by decide +kernel
theorem dX3_copyFrom_79 : decode cX3_copyFrom 79 = .ok (.putfield 31, 3) := by decide +kernel
theorem dX3_copyFrom_82 : decode cX3_copyFrom 82 = .ok (.return_, 1) := by decide +kernel
theorem dX3_has_0 : decode cX3_has 0 = .ok (.aload_n 0, 1) := by decide +kernel
theorem dX3_has_1 : decode cX3_has 1 = .ok (.getfield 15, 3) := by decide +kernel
theorem dX3_has_4 : decode cX3_has 4 = .ok (.iload_n 1, 1) := by decide +kernel
theorem dX3_has_5 : decode cX3_has 5 = .ok (.bipush 24, 2) := by decide +kernel
theorem dX3_has_7 : decode cX3_has 7 = .ok (.imul, 1) := by decide +kernel
theorem dX3_has_8 : decode cX3_has 8 = .ok (.iload_n 2, 1) := by decide +kernel
theorem dX3_has_9 : decode cX3_has 9 = .ok (.iadd, 1) := by decide +kernel
theorem dX3_has_10 : decode cX3_has 10 = .ok (.iaload, 1) := by decide +kernel
theorem dX3_has_11 : decode cX3_has 11 = .ok (.ifCond .le 7, 3) := by decide +kernel
theorem dX3_has_14 : decode cX3_has 14 = .ok (.iconst 1, 1) := by decide +kernel
theorem dX3_has_15 : decode cX3_has 15 = .ok (.goto 4, 3) := by decide +kernel
theorem dX3_has_18 : decode cX3_has 18 = .ok (.iconst 0, 1) := by decide +kernel
theorem dX3_has_19 : decode cX3_has 19 = .ok (.ireturn, 1) := by decide +kernel
theorem dX3_valueOf_0 : decode cX3_valueOf 0 = .ok (.aload_n 0, 1) := by decide +kernel
theorem dX3_valueOf_1 : decode cX3_valueOf 1 = .ok (.getfield 9, 3) := by decide +kernel
theorem dX3_valueOf_4 : decode cX3_valueOf 4 = .ok (.iload_n 1, 1) := by decide +kernel
theorem dX3_valueOf_5 : decode cX3_valueOf 5 = .ok (.bipush 24, 2) := by decide +kernel
theorem dX3_valueOf_7 : decode cX3_valueOf 7 = .ok (.imul, 1) := by decide +kernel
theorem dX3_valueOf_8 : decode cX3_valueOf 8 = .ok (.iload_n 2, 1) := by decide +kernel
theorem dX3_valueOf_9 : decode cX3_valueOf 9 = .ok (.iadd, 1) := by decide +kernel
theorem dX3_valueOf_10 : decode cX3_valueOf 10 = .ok (.iaload, 1) := by decide +kernel
theorem dX3_valueOf_11 : decode cX3_valueOf 11 = .ok (.ireturn, 1) := by decide +kernel
theorem dX3_stampOf_0 : decode cX3_stampOf 0 = .ok (.aload_n 0, 1) := by decide +kernel
theorem dX3_stampOf_1 : decode cX3_stampOf 1 = .ok (.getfield 15, 3) := by decide +kernel
theorem dX3_stampOf_4 : decode cX3_stampOf 4 = .ok (.iload_n 1, 1) := by decide +kernel
theorem dX3_stampOf_5 : decode cX3_stampOf 5 = .ok (.bipush 24, 2) := by decide +kernel
theorem dX3_stampOf_7 : decode cX3_stampOf 7 = .ok (.imul, 1) := by decide +kernel
theorem dX3_stampOf_8 : decode cX3_stampOf 8 = .ok (.iload_n 2, 1) := by decide +kernel
theorem dX3_stampOf_9 : decode cX3_stampOf 9 = .ok (.iadd, 1) := by decide +kernel
theorem dX3_stampOf_10 : decode cX3_stampOf 10 = .ok (.iaload, 1) := by decide +kernel
theorem dX3_stampOf_11 : decode cX3_stampOf 11 = .ok (.ireturn, 1) := by decide +kernel
theorem dX3_isGone_0 : decode cX3_isGone 0 = .ok (.aload_n 0, 1) := by decide +kernel
theorem dX3_isGone_1 : decode cX3_isGone 1 = .ok (.iload_n 1, 1) := by decide +kernel
theorem dX3_isGone_2 : decode cX3_isGone 2 = .ok (.iload_n 2, 1) := by decide +kernel
theorem dX3_isGone_3 : decode cX3_isGone 3 = .ok (.invokevirtual 40, 3) := by decide +kernel
theorem dX3_isGone_6 : decode cX3_isGone 6 = .ok (.ifCond .eq 17, 3) := by decide +kernel
theorem dX3_isGone_9 : decode cX3_isGone 9 = .ok (.aload_n 0, 1) := by decide +kernel
theorem dX3_isGone_10 : decode cX3_isGone 10 = .ok (.iload_n 1, 1) := by decide +kernel
theorem dX3_isGone_11 : decode cX3_isGone 11 = .ok (.iload_n 2, 1) := by decide +kernel
theorem dX3_isGone_12 : decode cX3_isGone 12 = .ok (.invokevirtual 44, 3) := by decide +kernel
theorem dX3_isGone_15 : decode cX3_isGone 15 = .ok (.iconst (-1), 1) := by decide +kernel
theorem dX3_isGone_16 : decode cX3_isGone 16 = .ok (.if_icmp .ne 7, 3) := by decide +kernel
theorem dX3_isGone_19 : decode cX3_isGone 19 = .ok (.iconst 1, 1) := by decide +kernel
theorem dX3_isGone_20 : decode cX3_isGone 20 = .ok (.goto 4, 3) := by decide +kernel
theorem dX3_isGone_23 : decode cX3_isGone 23 = .ok (.iconst 0, 1) := by decide +kernel
theorem dX3_isGone_24 : decode cX3_isGone 24 = .ok (.ireturn, 1) := by decide +kernel
theorem dX3_digestOf_0 : decode cX3_digestOf 0 = .ok (.aload_n 1, 1) := by decide +kernel
theorem dX3_digestOf_1 : decode cX3_digestOf 1 = .ok (.getfield 48, 3) := by decide +kernel
theorem dX3_digestOf_4 : decode cX3_digestOf 4 = .ok (.iload_n 3, 1) := by decide +kernel
theorem dX3_digestOf_5 : decode cX3_digestOf 5 = .ok (.iaload, 1) := by decide +kernel
theorem dX3_digestOf_6 : decode cX3_digestOf 6 = .ok (.aload_n 0, 1) := by decide +kernel
theorem dX3_digestOf_7 : decode cX3_digestOf 7 = .ok (.iload_n 2, 1) := by decide +kernel
theorem dX3_digestOf_8 : decode cX3_digestOf 8 = .ok (.iload_n 3, 1) := by decide +kernel
theorem dX3_digestOf_9 : decode cX3_digestOf 9 = .ok (.invokevirtual 53, 3) := by decide +kernel
theorem dX3_digestOf_12 : decode cX3_digestOf 12 = .ok (.invokestatic 56, 3) := by decide +kernel
theorem dX3_digestOf_15 : decode cX3_digestOf 15 = .ok (.aload_n 0, 1) := by decide +kernel
theorem dX3_digestOf_16 : decode cX3_digestOf 16 = .ok (.iload_n 2, 1) := by decide +kernel
theorem dX3_digestOf_17 : decode cX3_digestOf 17 = .ok (.iload_n 3, 1) := by decide +kernel
theorem dX3_digestOf_18 : decode cX3_digestOf 18 = .ok (.invokevirtual 44, 3) := by decide +kernel
theorem dX3_digestOf_21 : decode cX3_digestOf 21 = .ok (.iconst 1, 1) := by decide +kernel
theorem dX3_digestOf_22 : decode cX3_digestOf 22 = .ok (.iadd, 1) := by decide +kernel
theorem dX3_digestOf_23 : decode cX3_digestOf 23 = .ok (.invokestatic 56, 3) := by decide +kernel
theorem dX3_digestOf_26 : decode cX3_digestOf 26 = .ok (.ireturn, 1) := by decide +kernel
theorem dX3_isSame_0 : decode cX3_isSame 0 = .ok (.aload_n 0, 1) := by decide +kernel
theorem dX3_isSame_1 : decode cX3_isSame 1 = .ok (.iload_n 1, 1) := by decide +kernel
theorem dX3_isSame_2 : decode cX3_isSame 2 = .ok (.iload_n 3, 1) := by decide +kernel
theorem dX3_isSame_3 : decode cX3_isSame 3 = .ok (.invokevirtual 53, 3) := by decide +kernel
theorem dX3_isSame_6 : decode cX3_isSame 6 = .ok (.aload_n 0, 1) := by decide +kernel
theorem dX3_isSame_7 : decode cX3_isSame 7 = .ok (.iload_n 2, 1) := by decide +kernel
theorem dX3_isSame_8 : decode cX3_isSame 8 = .ok (.iload_n 3, 1) := by decide +kernel
theorem dX3_isSame_9 : decode cX3_isSame 9 = .ok (.invokevirtual 53, 3) := by decide +kernel
theorem dX3_isSame_12 : decode cX3_isSame 12 = .ok (.if_icmp .ne 31, 3) := by decide +kernel
theorem dX3_isSame_15 : decode cX3_isSame 15 = .ok (.aload_n 0, 1) := by decide +kernel
theorem dX3_isSame_16 : decode cX3_isSame 16 = .ok (.iload_n 1, 1) := by decide +kernel
theorem dX3_isSame_17 : decode cX3_isSame 17 = .ok (.iload_n 3, 1) := by decide +kernel
theorem dX3_isSame_18 : decode cX3_isSame 18 = .ok (.invokevirtual 40, 3) := by decide +kernel
theorem dX3_isSame_21 : decode cX3_isSame 21 = .ok (.ifCond .eq 18, 3) := by decide +kernel
theorem dX3_isSame_24 : decode cX3_isSame 24 = .ok (.aload_n 0, 1) := by decide +kernel
theorem dX3_isSame_25 : decode cX3_isSame 25 = .ok (.iload_n 1, 1) := by decide +kernel
theorem dX3_isSame_26 : decode cX3_isSame 26 = .ok (.iload_n 3, 1) := by decide +kernel
theorem dX3_isSame_27 : decode cX3_isSame 27 = .ok (.invokevirtual 44, 3) := by decide +kernel
theorem dX3_isSame_30 : decode cX3_isSame 30 = .ok (.aload_n 0, 1) := by decide +kernel
theorem dX3_isSame_31 : decode cX3_isSame 31 = .ok (.iload_n 2, 1) := by decide +kernel
theorem dX3_isSame_32 : decode cX3_isSame 32 = .ok (.iload_n 3, 1) := by decide +kernel
theorem dX3_isSame_33 : decode cX3_isSame 33 = .ok (.invokevirtual 44, 3) := by decide +kernel
theorem dX3_isSame_36 : decode cX3_isSame 36 = .ok (.if_icmp .ne 7, 3) := by decide +kernel
theorem dX3_isSame_39 : decode cX3_isSame 39 = .ok (.iconst 1, 1) := by decide +kernel
theorem dX3_isSame_40 : decode cX3_isSame 40 = .ok (.goto 4, 3) := by decide +kernel
theorem dX3_isSame_43 : decode cX3_isSame 43 = .ok (.iconst 0, 1) := by decide +kernel
theorem dX3_isSame_44 : decode cX3_isSame 44 = .ok (.ireturn, 1) := by decide +kernel
theorem dX3_write_0 : decode cX3_write 0 = .ok (.aload_n 0, 1) := by decide +kernel
theorem dX3_write_1 : decode cX3_write 1 = .ok (.dup, 1) := by decide +kernel
theorem dX3_write_2 : decode cX3_write 2 = .ok (.getfield 31, 3) := by decide +kernel
theorem dX3_write_5 : decode cX3_write 5 = .ok (.iconst 1, 1) := by decide +kernel
theorem dX3_write_6 : decode cX3_write 6 = .ok (.iadd, 1) := by decide +kernel
theorem dX3_write_7 : decode cX3_write 7 = .ok (.putfield 31, 3) := by decide +kernel
theorem dX3_write_10 : decode cX3_write 10 = .ok (.aload_n 0, 1) := by decide +kernel
theorem dX3_write_11 : decode cX3_write 11 = .ok (.getfield 9, 3) := by decide +kernel
theorem dX3_write_14 : decode cX3_write 14 = .ok (.iload_n 1, 1) := by decide +kernel
theorem dX3_write_15 : decode cX3_write 15 = .ok (.bipush 24, 2) := by decide +kernel
theorem dX3_write_17 : decode cX3_write 17 = .ok (.imul, 1) := by decide +kernel
theorem dX3_write_18 : decode cX3_write 18 = .ok (.iload_n 2, 1) := by decide +kernel
theorem dX3_write_19 : decode cX3_write 19 = .ok (.iadd, 1) := by decide +kernel
theorem dX3_write_20 : decode cX3_write 20 = .ok (.iload_n 3, 1) := by decide +kernel
theorem dX3_write_21 : decode cX3_write 21 = .ok (.iastore, 1) := by decide +kernel
theorem dX3_write_22 : decode cX3_write 22 = .ok (.aload_n 0, 1) := by decide +kernel
theorem dX3_write_23 : decode cX3_write 23 = .ok (.getfield 15, 3) := by decide +kernel
theorem dX3_write_26 : decode cX3_write 26 = .ok (.iload_n 1, 1) := by decide +kernel
theorem dX3_write_27 : decode cX3_write 27 = .ok (.bipush 24, 2) := by decide +kernel
theorem dX3_write_29 : decode cX3_write 29 = .ok (.imul, 1) := by decide +kernel
theorem dX3_write_30 : decode cX3_write 30 = .ok (.iload_n 2, 1) := by decide +kernel
theorem dX3_write_31 : decode cX3_write 31 = .ok (.iadd, 1) := by decide +kernel
theorem dX3_write_32 : decode cX3_write 32 = .ok (.aload_n 0, 1) := by decide +kernel
theorem dX3_write_33 : decode cX3_write 33 = .ok (.getfield 31, 3) := by decide +kernel
theorem dX3_write_36 : decode cX3_write 36 = .ok (.iastore, 1) := by decide +kernel
theorem dX3_write_37 : decode cX3_write 37 = .ok (.return_, 1) := by decide +kernel
theorem dX3_take_0 : decode cX3_take 0 = .ok (.aload_n 0, 1) := by decide +kernel
theorem dX3_take_1 : decode cX3_take 1 = .ok (.getfield 9, 3) := by decide +kernel
theorem dX3_take_4 : decode cX3_take 4 = .ok (.iload_n 1, 1) := by decide +kernel
theorem dX3_take_5 : decode cX3_take 5 = .ok (.bipush 24, 2) := by decide +kernel
theorem dX3_take_7 : decode cX3_take 7 = .ok (.imul, 1) := by decide +kernel
theorem dX3_take_8 : decode cX3_take 8 = .ok (.iload_n 3, 1) := by decide +kernel
theorem dX3_take_9 : decode cX3_take 9 = .ok (.iadd, 1) := by decide +kernel
theorem dX3_take_10 : decode cX3_take 10 = .ok (.aload_n 0, 1) := by decide +kernel
theorem dX3_take_11 : decode cX3_take 11 = .ok (.iload_n 2, 1) := by decide +kernel
theorem dX3_take_12 : decode cX3_take 12 = .ok (.iload_n 3, 1) := by decide +kernel
theorem dX3_take_13 : decode cX3_take 13 = .ok (.invokevirtual 44, 3) := by decide +kernel
theorem dX3_take_16 : decode cX3_take 16 = .ok (.iastore, 1) := by decide +kernel
theorem dX3_take_17 : decode cX3_take 17 = .ok (.aload_n 0, 1) := by decide +kernel
theorem dX3_take_18 : decode cX3_take 18 = .ok (.getfield 15, 3) := by decide +kernel
theorem dX3_take_21 : decode cX3_take 21 = .ok (.iload_n 1, 1) := by decide +kernel
theorem dX3_take_22 : decode cX3_take 22 = .ok (.bipush 24, 2) := by decide +kernel
theorem dX3_take_24 : decode cX3_take 24 = .ok (.imul, 1) := by decide +kernel
theorem dX3_take_25 : decode cX3_take 25 = .ok (.iload_n 3, 1) := by decide +kernel
theorem dX3_take_26 : decode cX3_take 26 = .ok (.iadd, 1) := by decide +kernel
theorem dX3_take_27 : decode cX3_take 27 = .ok (.aload_n 0, 1) := by decide +kernel
theorem dX3_take_28 : decode cX3_take 28 = .ok (.iload_n 2, 1) := by decide +kernel
theorem dX3_take_29 : decode cX3_take 29 = .ok (.iload_n 3, 1) := by decide +kernel
theorem dX3_take_30 : decode cX3_take 30 = .ok (.invokevirtual 53, 3) := by decide +kernel
theorem dX3_take_33 : decode cX3_take 33 = .ok (.iastore, 1) := by decide +kernel
theorem dX3_take_34 : decode cX3_take 34 = .ok (.return_, 1) := by decide +kernel
theorem dX3_areCut_0 : decode cX3_areCut 0 = .ok (.aload_n 0, 1) := by decide +kernel
theorem dX3_areCut_1 : decode cX3_areCut 1 = .ok (.getfield 18, 3) := by decide +kernel
theorem dX3_areCut_4 : decode cX3_areCut 4 = .ok (.iload_n 1, 1) := by decide +kernel
theorem dX3_areCut_5 : decode cX3_areCut 5 = .ok (.iaload, 1) := by decide +kernel
theorem dX3_areCut_6 : decode cX3_areCut 6 = .ok (.iload_n 2, 1) := by decide +kernel
theorem dX3_areCut_7 : decode cX3_areCut 7 = .ok (.iushr, 1) := by decide +kernel
theorem dX3_areCut_8 : decode cX3_areCut 8 = .ok (.iconst 1, 1) := by decide +kernel
theorem dX3_areCut_9 : decode cX3_areCut 9 = .ok (.iand, 1) := by decide +kernel
theorem dX3_areCut_10 : decode cX3_areCut 10 = .ok (.ifCond .eq 7, 3) := by decide +kernel
theorem dX3_areCut_13 : decode cX3_areCut 13 = .ok (.iconst 1, 1) := by decide +kernel
theorem dX3_areCut_14 : decode cX3_areCut 14 = .ok (.goto 4, 3) := by decide +kernel
theorem dX3_areCut_17 : decode cX3_areCut 17 = .ok (.iconst 0, 1) := by decide +kernel
theorem dX3_areCut_18 : decode cX3_areCut 18 = .ok (.ireturn, 1) := by decide +kernel
theorem dX3_turnLink_0 : decode cX3_turnLink 0 = .ok (.aload_n 0, 1) := by decide +kernel
theorem dX3_turnLink_1 : decode cX3_turnLink 1 = .ok (.getfield 18, 3) := by decide +kernel
theorem dX3_turnLink_4 : decode cX3_turnLink 4 = .ok (.iload_n 1, 1) := by decide +kernel
theorem dX3_turnLink_5 : decode cX3_turnLink 5 = .ok (.dup2, 1) := by decide +kernel
theorem dX3_turnLink_6 : decode cX3_turnLink 6 = .ok (.iaload, 1) := by decide +kernel
theorem dX3_turnLink_7 : decode cX3_turnLink 7 = .ok (.iconst 1, 1) := by decide +kernel
theorem dX3_turnLink_8 : decode cX3_turnLink 8 = .ok (.iload_n 2, 1) := by decide +kernel
theorem dX3_turnLink_9 : decode cX3_turnLink 9 = .ok (.ishl, 1) := by decide +kernel
theorem dX3_turnLink_10 : decode cX3_turnLink 10 = .ok (.ixor, 1) := by decide +kernel
theorem dX3_turnLink_11 : decode cX3_turnLink 11 = .ok (.iastore, 1) := by decide +kernel
theorem dX3_turnLink_12 : decode cX3_turnLink 12 = .ok (.aload_n 0, 1) := by decide +kernel
theorem dX3_turnLink_13 : decode cX3_turnLink 13 = .ok (.getfield 18, 3) := by decide +kernel
theorem dX3_turnLink_16 : decode cX3_turnLink 16 = .ok (.iload_n 2, 1) := by decide +kernel
theorem dX3_turnLink_17 : decode cX3_turnLink 17 = .ok (.dup2, 1) := by decide +kernel
theorem dX3_turnLink_18 : decode cX3_turnLink 18 = .ok (.iaload, 1) := by decide +kernel
theorem dX3_turnLink_19 : decode cX3_turnLink 19 = .ok (.iconst 1, 1) := by decide +kernel
theorem dX3_turnLink_20 : decode cX3_turnLink 20 = .ok (.iload_n 1, 1) := by decide +kernel
theorem dX3_turnLink_21 : decode cX3_turnLink 21 = .ok (.ishl, 1) := by decide +kernel
theorem dX3_turnLink_22 : decode cX3_turnLink 22 = .ok (.ixor, 1) := by decide +kernel
theorem dX3_turnLink_23 : decode cX3_turnLink 23 = .ok (.iastore, 1) := by decide +kernel
theorem dX3_turnLink_24 : decode cX3_turnLink 24 = .ok (.return_, 1) := by decide +kernel
theorem dX3_firstCut_0 : decode cX3_firstCut 0 = .ok (.iconst 0, 1) := by decide +kernel
theorem dX3_firstCut_1 : decode cX3_firstCut 1 = .ok (.istore_n 2, 1) := by decide +kernel
theorem dX3_firstCut_2 : decode cX3_firstCut 2 = .ok (.iload_n 2, 1) := by decide +kernel
theorem dX3_firstCut_3 : decode cX3_firstCut 3 = .ok (.iconst 4, 1) := by decide +kernel
theorem dX3_firstCut_4 : decode cX3_firstCut 4 = .ok (.if_icmp .ge 20, 3) := by decide +kernel
theorem dX3_firstCut_7 : decode cX3_firstCut 7 = .ok (.aload_n 0, 1) := by decide +kernel
theorem dX3_firstCut_8 : decode cX3_firstCut 8 = .ok (.iload_n 1, 1) := by decide +kernel
theorem dX3_firstCut_9 : decode cX3_firstCut 9 = .ok (.iload_n 2, 1) := by decide +kernel
theorem dX3_firstCut_10 : decode cX3_firstCut 10 = .ok (.invokevirtual 59, 3) := by decide +kernel
theorem dX3_firstCut_13 : decode cX3_firstCut 13 = .ok (.ifCond .eq 5, 3) := by decide +kernel
theorem dX3_firstCut_16 : decode cX3_firstCut 16 = .ok (.iload_n 2, 1) := by decide +kernel
theorem dX3_firstCut_17 : decode cX3_firstCut 17 = .ok (.ireturn, 1) := by decide +kernel
theorem dX3_firstCut_18 : decode cX3_firstCut 18 = .ok (.iinc 2 1, 3) := by decide +kernel
theorem dX3_firstCut_21 : decode cX3_firstCut 21 = .ok (.goto (-19), 3) := by decide +kernel
theorem dX3_firstCut_24 : decode cX3_firstCut 24 = .ok (.iconst (-1), 1) := by decide +kernel
theorem dX3_firstCut_25 : decode cX3_firstCut 25 = .ok (.ireturn, 1) := by decide +kernel
theorem dX4_init_0 : decode cX4_init 0 = .ok (.aload_n 0, 1) := by decide +kernel
theorem dX4_init_1 : decode cX4_init 1 = .ok (.invokespecial 3, 3) := by decide +kernel
theorem dX4_init_4 : decode cX4_init 4 = .ok (.aload_n 0, 1) := by decide +kernel
theorem dX4_init_5 : decode cX4_init 5 = .ok (.iconst 4, 1) := by decide +kernel
theorem dX4_init_6 : decode cX4_init 6 = .ok (.anewarray 9, 3) := by decide +kernel
theorem dX4_init_9 : decode cX4_init 9 = .ok (.dup, 1) := by decide +kernel
theorem dX4_init_10 : decode cX4_init 10 = .ok (.iconst 0, 1) := by decide +kernel
theorem dX4_init_11 : decode cX4_init 11 = .ok (.new 9, 3) := by decide +kernel
theorem dX4_init_14 : decode cX4_init 14 = .ok (.dup, 1) := by decide +kernel
theorem dX4_init_15 : decode cX4_init 15 = .ok (.invokespecial 11, 3) := by decide +kernel
theorem dX4_init_18 : decode cX4_init 18 = .ok (.aastore, 1) := by decide +kernel
theorem dX4_init_19 : decode cX4_init 19 = .ok (.dup, 1) := by decide +kernel
theorem dX4_init_20 : decode cX4_init 20 = .ok (.iconst 1, 1) := by decide +kernel
theorem dX4_init_21 : decode cX4_init 21 = .ok (.new 9, 3) := by decide +kernel
theorem dX4_init_24 : decode cX4_init 24 = .ok (.dup, 1) := by decide +kernel
theorem dX4_init_25 : decode cX4_init 25 = .ok (.invokespecial 11, 3) := by decide +kernel
theorem dX4_init_28 : decode cX4_init 28 = .ok (.aastore, 1) := by decide +kernel
theorem dX4_init_29 : decode cX4_init 29 = .ok (.dup, 1) := by decide +kernel
theorem dX4_init_30 : decode cX4_init 30 = .ok (.iconst 2, 1) := by decide +kernel
theorem dX4_init_31 : decode cX4_init 31 = .ok (.new 9, 3) := by decide +kernel
theorem dX4_init_34 : decode cX4_init 34 = .ok (.dup, 1) := by decide +kernel
theorem dX4_init_35 : decode cX4_init 35 = .ok (.invokespecial 11, 3) := by decide +kernel
theorem dX4_init_38 : decode cX4_init 38 = .ok (.aastore, 1) := by decide +kernel
theorem dX4_init_39 : decode cX4_init 39 = .ok (.dup, 1) := by decide +kernel
theorem dX4_init_40 : decode cX4_init 40 = .ok (.iconst 3, 1) := by decide +kernel
theorem dX4_init_41 : decode cX4_init 41 = .ok (.new 9, 3) := by decide +kernel
theorem dX4_init_44 : decode cX4_init 44 = .ok (.dup, 1) := by decide +kernel
theorem dX4_init_45 : decode cX4_init 45 = .ok (.invokespecial 11, 3) := by decide +kernel
theorem dX4_init_48 : decode cX4_init 48 = .ok (.aastore, 1) := by decide +kernel
theorem dX4_init_49 : decode cX4_init 49 = .ok (.putfield 12, 3) := by decide +kernel
theorem dX4_init_52 : decode cX4_init 52 = .ok (.aload_n 0, 1) := by decide +kernel
theorem dX4_init_53 : decode cX4_init 53 = .ok (.bipush 24, 2) := by decide +kernel
theorem dX4_init_55 : decode cX4_init 55 = .ok (.newarray .int, 2) := by decide +kernel
theorem dX4_init_57 : decode cX4_init 57 = .ok (.putfield 18, 3) := by decide +kernel
theorem dX4_init_60 : decode cX4_init 60 = .ok (.aload_n 0, 1) := by decide +kernel
theorem dX4_init_61 : decode cX4_init 61 = .ok (.aload_n 1, 1) := by decide +kernel
theorem dX4_init_62 : decode cX4_init 62 = .ok (.putfield 22, 3) := by decide +kernel
theorem dX4_init_65 : decode cX4_init 65 = .ok (.aload_n 0, 1) := by decide +kernel
theorem dX4_init_66 : decode cX4_init 66 = .ok (.aload_n 2, 1) := by decide +kernel
theorem dX4_init_67 : decode cX4_init 67 = .ok (.putfield 26, 3) := by decide +kernel
theorem dX4_init_70 : decode cX4_init 70 = .ok (.return_, 1) := by decide +kernel
theorem dX4_copyFrom_0 : decode cX4_copyFrom 0 = .ok (.aload_n 0, 1) := by decide +kernel
theorem dX4_copyFrom_1 : decode cX4_copyFrom 1 = .ok (.getfield 26, 3) := by decide +kernel
theorem dX4_copyFrom_4 : decode cX4_copyFrom 4 = .ok (.aload_n 1, 1) := by decide +kernel
theorem dX4_copyFrom_5 : decode cX4_copyFrom 5 = .ok (.getfield 26, 3) := by decide +kernel
theorem dX4_copyFrom_8 : decode cX4_copyFrom 8 = .ok (.invokevirtual 30, 3) := by decide +kernel
theorem dX4_copyFrom_11 : decode cX4_copyFrom 11 = .ok (.iconst 0, 1) := by decide +kernel
theorem dX4_copyFrom_12 : decode cX4_copyFrom 12 = .ok (.istore_n 2, 1) := by decide +kernel
theorem dX4_copyFrom_13 : decode cX4_copyFrom 13 = .ok (.iload_n 2, 1) := by decide +kernel
theorem dX4_copyFrom_14 : decode cX4_copyFrom 14 = .ok (.iconst 4, 1) := by decide +kernel
theorem dX4_copyFrom_15 : decode cX4_copyFrom 15 = .ok (.if_icmp .ge 24, 3) := by decide +kernel
theorem dX4_copyFrom_18 : decode cX4_copyFrom 18 = .ok (.aload_n 0, 1) := by decide +kernel
theorem dX4_copyFrom_19 : decode cX4_copyFrom 19 = .ok (.getfield 12, 3) := by decide +kernel
theorem dX4_copyFrom_22 : decode cX4_copyFrom 22 = .ok (.iload_n 2, 1) := by decide +kernel
theorem dX4_copyFrom_23 : decode cX4_copyFrom 23 = .ok (.aaload, 1) := by decide +kernel
theorem dX4_copyFrom_24 : decode cX4_copyFrom 24 = .ok (.aload_n 1, 1) := by decide +kernel
theorem dX4_copyFrom_25 : decode cX4_copyFrom 25 = .ok (.getfield 12, 3) := by decide +kernel
theorem dX4_copyFrom_28 : decode cX4_copyFrom 28 = .ok (.iload_n 2, 1) := by decide +kernel
theorem dX4_copyFrom_29 : decode cX4_copyFrom 29 = .ok (.aaload, 1) := by decide +kernel
theorem dX4_copyFrom_30 : decode cX4_copyFrom 30 = .ok (.invokevirtual 36, 3) := by decide +kernel
theorem dX4_copyFrom_33 : decode cX4_copyFrom 33 = .ok (.iinc 2 1, 3) := by decide +kernel
theorem dX4_copyFrom_36 : decode cX4_copyFrom 36 = .ok (.goto (-23), 3) := by decide +kernel
theorem dX4_copyFrom_39 : decode cX4_copyFrom 39 = .ok (.return_, 1) := by decide +kernel
theorem dX4_growTrees_0 : decode cX4_growTrees 0 = .ok (.iconst 0, 1) := by decide +kernel
theorem dX4_growTrees_1 : decode cX4_growTrees 1 = .ok (.istore_n 1, 1) := by decide +kernel
theorem dX4_growTrees_2 : decode cX4_growTrees 2 = .ok (.iload_n 1, 1) := by decide +kernel
theorem dX4_growTrees_3 : decode cX4_growTrees 3 = .ok (.iconst 4, 1) := by decide +kernel
theorem dX4_growTrees_4 : decode cX4_growTrees 4 = .ok (.if_icmp .ge 27, 3) := by decide +kernel
theorem dX4_growTrees_7 : decode cX4_growTrees 7 = .ok (.aload_n 0, 1) := by decide +kernel
theorem dX4_growTrees_8 : decode cX4_growTrees 8 = .ok (.getfield 12, 3) := by decide +kernel
theorem dX4_growTrees_11 : decode cX4_growTrees 11 = .ok (.iload_n 1, 1) := by decide +kernel
theorem dX4_growTrees_12 : decode cX4_growTrees 12 = .ok (.aaload, 1) := by decide +kernel
theorem dX4_growTrees_13 : decode cX4_growTrees 13 = .ok (.aload_n 0, 1) := by decide +kernel
theorem dX4_growTrees_14 : decode cX4_growTrees 14 = .ok (.getfield 22, 3) := by decide +kernel
theorem dX4_growTrees_17 : decode cX4_growTrees 17 = .ok (.aload_n 0, 1) := by decide +kernel
theorem dX4_growTrees_18 : decode cX4_growTrees 18 = .ok (.getfield 26, 3) := by decide +kernel
theorem dX4_growTrees_21 : decode cX4_growTrees 21 = .ok (.iload_n 1, 1) := by decide +kernel
theorem dX4_growTrees_22 : decode cX4_growTrees 22 = .ok (.invokevirtual 39, 3) := by decide +kernel
theorem dX4_growTrees_25 : decode cX4_growTrees 25 = .ok (.iinc 1 1, 3) := by decide +kernel
theorem dX4_growTrees_28 : decode cX4_growTrees 28 = .ok (.goto (-26), 3) := by decide +kernel
theorem dX4_growTrees_31 : decode cX4_growTrees 31 = .ok (.return_, 1) := by decide +kernel
theorem dX4_rootOf_0 : decode cX4_rootOf 0 = .ok (.aload_n 0, 1) := by decide +kernel
theorem dX4_rootOf_1 : decode cX4_rootOf 1 = .ok (.getfield 12, 3) := by decide +kernel
theorem dX4_rootOf_4 : decode cX4_rootOf 4 = .ok (.iload_n 1, 1) := by decide +kernel
theorem dX4_rootOf_5 : decode cX4_rootOf 5 = .ok (.aaload, 1) := by decide +kernel
theorem dX4_rootOf_6 : decode cX4_rootOf 6 = .ok (.getfield 43, 3) := by decide +kernel
theorem dX4_rootOf_9 : decode cX4_rootOf 9 = .ok (.ifCond .ne 7, 3) := by decide +kernel
theorem dX4_rootOf_12 : decode cX4_rootOf 12 = .ok (.iconst 0, 1) := by decide +kernel
theorem dX4_rootOf_13 : decode cX4_rootOf 13 = .ok (.goto 14, 3) := by decide +kernel
theorem dX4_rootOf_16 : decode cX4_rootOf 16 = .ok (.aload_n 0, 1) := by decide +kernel
theorem dX4_rootOf_17 : decode cX4_rootOf 17 = .ok (.getfield 12, 3) := by decide +kernel
theorem dX4_rootOf_20 : decode cX4_rootOf 20 = .ok (.iload_n 1, 1) := by decide +kernel
theorem dX4_rootOf_21 : decode cX4_rootOf 21 = .ok (.aaload, 1) := by decide +kernel
theorem dX4_rootOf_22 : decode cX4_rootOf 22 = .ok (.getfield 47, 3) := by decide +kernel
theorem dX4_rootOf_25 : decode cX4_rootOf 25 = .ok (.iconst 0, 1) := by decide +kernel
theorem dX4_rootOf_26 : decode cX4_rootOf 26 = .ok (.iaload, 1) := by decide +kernel
theorem dX4_rootOf_27 : decode cX4_rootOf 27 = .ok (.ireturn, 1) := by decide +kernel
theorem dX4_holderBits_0 : decode cX4_holderBits 0 = .ok (.iconst 0, 1) := by decide +kernel
theorem dX4_holderBits_1 : decode cX4_holderBits 1 = .ok (.istore_n 2, 1) := by decide +kernel
theorem dX4_holderBits_2 : decode cX4_holderBits 2 = .ok (.iconst 0, 1) := by decide +kernel
theorem dX4_holderBits_3 : decode cX4_holderBits 3 = .ok (.istore_n 3, 1) := by decide +kernel
theorem dX4_holderBits_4 : decode cX4_holderBits 4 = .ok (.iload_n 3, 1) := by decide +kernel
theorem dX4_holderBits_5 : decode cX4_holderBits 5 = .ok (.aload_n 0, 1) := by decide +kernel
theorem dX4_holderBits_6 : decode cX4_holderBits 6 = .ok (.getfield 22, 3) := by decide +kernel
theorem dX4_holderBits_9 : decode cX4_holderBits 9 = .ok (.getfield 50, 3) := by decide +kernel
theorem dX4_holderBits_12 : decode cX4_holderBits 12 = .ok (.if_icmp .ge 27, 3) := by decide +kernel
theorem dX4_holderBits_15 : decode cX4_holderBits 15 = .ok (.aload_n 0, 1) := by decide +kernel
theorem dX4_holderBits_16 : decode cX4_holderBits 16 = .ok (.getfield 26, 3) := by decide +kernel
theorem dX4_holderBits_19 : decode cX4_holderBits 19 = .ok (.iload_n 3, 1) := by decide +kernel
theorem dX4_holderBits_20 : decode cX4_holderBits 20 = .ok (.iload_n 1, 1) := by decide +kernel
theorem dX4_holderBits_21 : decode cX4_holderBits 21 = .ok (.invokevirtual 55, 3) := by decide +kernel
theorem dX4_holderBits_24 : decode cX4_holderBits 24 = .ok (.ifCond .eq 9, 3) := by decide +kernel
theorem dX4_holderBits_27 : decode cX4_holderBits 27 = .ok (.iload_n 2, 1) := by decide +kernel
theorem dX4_holderBits_28 : decode cX4_holderBits 28 = .ok (.iconst 1, 1) := by decide +kernel
theorem dX4_holderBits_29 : decode cX4_holderBits 29 = .ok (.iload_n 3, 1) := by decide +kernel
theorem dX4_holderBits_30 : decode cX4_holderBits 30 = .ok (.ishl, 1) := by decide +kernel
theorem dX4_holderBits_31 : decode cX4_holderBits 31 = .ok (.ior, 1) := by decide +kernel
theorem dX4_holderBits_32 : decode cX4_holderBits 32 = .ok (.istore_n 2, 1) := by decide +kernel
theorem dX4_holderBits_33 : decode cX4_holderBits 33 = .ok (.iinc 3 1, 3) := by decide +kernel
theorem dX4_holderBits_36 : decode cX4_holderBits 36 = .ok (.goto (-32), 3) := by decide +kernel
theorem dX4_holderBits_39 : decode cX4_holderBits 39 = .ok (.iload_n 2, 1) := by decide +kernel
theorem dX4_holderBits_40 : decode cX4_holderBits 40 = .ok (.ireturn, 1) := by decide +kernel
theorem dX4_goneCount_0 : decode cX4_goneCount 0 = .ok (.iconst 0, 1) := by decide +kernel
theorem dX4_goneCount_1 : decode cX4_goneCount 1 = .ok (.istore_n 2, 1) := by decide +kernel
theorem dX4_goneCount_2 : decode cX4_goneCount 2 = .ok (.iconst 0, 1) := by decide +kernel
theorem dX4_goneCount_3 : decode cX4_goneCount 3 = .ok (.istore_n 3, 1) := by decide +kernel
theorem dX4_goneCount_4 : decode cX4_goneCount 4 = .ok (.iload_n 3, 1) := by decide +kernel
theorem dX4_goneCount_5 : decode cX4_goneCount 5 = .ok (.aload_n 0, 1) := by decide +kernel
theorem dX4_goneCount_6 : decode cX4_goneCount 6 = .ok (.getfield 22, 3) := by decide +kernel
theorem dX4_goneCount_9 : decode cX4_goneCount 9 = .ok (.getfield 59, 3) := by decide +kernel
theorem dX4_goneCount_12 : decode cX4_goneCount 12 = .ok (.if_icmp .ge 24, 3) := by decide +kernel
theorem dX4_goneCount_15 : decode cX4_goneCount 15 = .ok (.aload_n 0, 1) := by decide +kernel
theorem dX4_goneCount_16 : decode cX4_goneCount 16 = .ok (.getfield 26, 3) := by decide +kernel
theorem dX4_goneCount_19 : decode cX4_goneCount 19 = .ok (.iload_n 1, 1) := by decide +kernel
theorem dX4_goneCount_20 : decode cX4_goneCount 20 = .ok (.iload_n 3, 1) := by decide +kernel
theorem dX4_goneCount_21 : decode cX4_goneCount 21 = .ok (.invokevirtual 62, 3) := by decide +kernel
theorem dX4_goneCount_24 : decode cX4_goneCount 24 = .ok (.ifCond .eq 6, 3) := by decide +kernel
theorem dX4_goneCount_27 : decode cX4_goneCount 27 = .ok (.iinc 2 1, 3) := by decide +kernel
theorem dX4_goneCount_30 : decode cX4_goneCount 30 = .ok (.iinc 3 1, 3) := by decide +kernel
theorem dX4_goneCount_33 : decode cX4_goneCount 33 = .ok (.goto (-29), 3) := by decide +kernel
theorem dX4_goneCount_36 : decode cX4_goneCount 36 = .ok (.iload_n 2, 1) := by decide +kernel
theorem dX4_goneCount_37 : decode cX4_goneCount 37 = .ok (.ireturn, 1) := by decide +kernel
theorem dX4_sameRootBits_0 : decode cX4_sameRootBits 0 = .ok (.iconst 0, 1) := by decide +kernel
theorem dX4_sameRootBits_1 : decode cX4_sameRootBits 1 = .ok (.istore_n 2, 1) := by decide +kernel
theorem dX4_sameRootBits_2 : decode cX4_sameRootBits 2 = .ok (.iconst 0, 1) := by decide +kernel
theorem dX4_sameRootBits_3 : decode cX4_sameRootBits 3 = .ok (.istore_n 3, 1) := by decide +kernel
theorem dX4_sameRootBits_4 : decode cX4_sameRootBits 4 = .ok (.iload_n 3, 1) := by decide +kernel
theorem dX4_sameRootBits_5 : decode cX4_sameRootBits 5 = .ok (.aload_n 0, 1) := by decide +kernel
theorem dX4_sameRootBits_6 : decode cX4_sameRootBits 6 = .ok (.getfield 22, 3) := by decide +kernel
theorem dX4_sameRootBits_9 : decode cX4_sameRootBits 9 = .ok (.getfield 50, 3) := by decide +kernel
theorem dX4_sameRootBits_12 : decode cX4_sameRootBits 12 = .ok (.if_icmp .ge 28, 3) := by decide +kernel
theorem dX4_sameRootBits_15 : decode cX4_sameRootBits 15 = .ok (.aload_n 0, 1) := by decide +kernel
theorem dX4_sameRootBits_16 : decode cX4_sameRootBits 16 = .ok (.iload_n 3, 1) := by decide +kernel
theorem dX4_sameRootBits_17 : decode cX4_sameRootBits 17 = .ok (.invokevirtual 65, 3) := by decide +kernel
theorem dX4_sameRootBits_20 : decode cX4_sameRootBits 20 = .ok (.aload_n 0, 1) := by decide +kernel
theorem dX4_sameRootBits_21 : decode cX4_sameRootBits 21 = .ok (.iload_n 1, 1) := by decide +kernel
theorem dX4_sameRootBits_22 : decode cX4_sameRootBits 22 = .ok (.invokevirtual 65, 3) := by decide +kernel
theorem dX4_sameRootBits_25 : decode cX4_sameRootBits 25 = .ok (.if_icmp .ne 9, 3) := by decide +kernel
theorem dX4_sameRootBits_28 : decode cX4_sameRootBits 28 = .ok (.iload_n 2, 1) := by decide +kernel
theorem dX4_sameRootBits_29 : decode cX4_sameRootBits 29 = .ok (.iconst 1, 1) := by decide +kernel
theorem dX4_sameRootBits_30 : decode cX4_sameRootBits 30 = .ok (.iload_n 3, 1) := by decide +kernel
theorem dX4_sameRootBits_31 : decode cX4_sameRootBits 31 = .ok (.ishl, 1) := by decide +kernel
theorem dX4_sameRootBits_32 : decode cX4_sameRootBits 32 = .ok (.ior, 1) := by decide +kernel
theorem dX4_sameRootBits_33 : decode cX4_sameRootBits 33 = .ok (.istore_n 2, 1) := by decide +kernel
theorem dX4_sameRootBits_34 : decode cX4_sameRootBits 34 = .ok (.iinc 3 1, 3) := by decide +kernel
theorem dX4_sameRootBits_37 : decode cX4_sameRootBits 37 = .ok (.goto (-33), 3) := by decide +kernel
theorem dX4_sameRootBits_40 : decode cX4_sameRootBits 40 = .ok (.iload_n 2, 1) := by decide +kernel
theorem dX4_sameRootBits_41 : decode cX4_sameRootBits 41 = .ok (.ireturn, 1) := by decide +kernel
theorem dX4_rootKinds_0 : decode cX4_rootKinds 0 = .ok (.iconst 0, 1) := by decide +kernel
theorem dX4_rootKinds_1 : decode cX4_rootKinds 1 = .ok (.istore_n 1, 1) := by decide +kernel
theorem dX4_rootKinds_2 : decode cX4_rootKinds 2 = .ok (.iconst 0, 1) := by decide +kernel
theorem dX4_rootKinds_3 : decode cX4_rootKinds 3 = .ok (.istore_n 2, 1) := by decide +kernel
theorem dX4_rootKinds_4 : decode cX4_rootKinds 4 = .ok (.iload_n 2, 1) := by decide +kernel
theorem dX4_rootKinds_5 : decode cX4_rootKinds 5 = .ok (.aload_n 0, 1) := by decide +kernel
theorem dX4_rootKinds_6 : decode cX4_rootKinds 6 = .ok (.getfield 22, 3) := by decide +kernel
theorem dX4_rootKinds_9 : decode cX4_rootKinds 9 = .ok (.getfield 50, 3) := by decide +kernel
theorem dX4_rootKinds_12 : decode cX4_rootKinds 12 = .ok (.if_icmp .ge 26, 3) := by decide +kernel
theorem dX4_rootKinds_15 : decode cX4_rootKinds 15 = .ok (.aload_n 0, 1) := by decide +kernel
theorem dX4_rootKinds_16 : decode cX4_rootKinds 16 = .ok (.iload_n 2, 1) := by decide +kernel
theorem dX4_rootKinds_17 : decode cX4_rootKinds 17 = .ok (.invokevirtual 69, 3) := by decide +kernel
theorem dX4_rootKinds_20 : decode cX4_rootKinds 20 = .ok (.iconst 1, 1) := by decide +kernel
theorem dX4_rootKinds_21 : decode cX4_rootKinds 21 = .ok (.iload_n 2, 1) := by decide +kernel
theorem dX4_rootKinds_22 : decode cX4_rootKinds 22 = .ok (.ishl, 1) := by decide +kernel
theorem dX4_rootKinds_23 : decode cX4_rootKinds 23 = .ok (.iconst 1, 1) := by decide +kernel
theorem dX4_rootKinds_24 : decode cX4_rootKinds 24 = .ok (.isub, 1) := by decide +kernel
theorem dX4_rootKinds_25 : decode cX4_rootKinds 25 = .ok (.iand, 1) := by decide +kernel
theorem dX4_rootKinds_26 : decode cX4_rootKinds 26 = .ok (.ifCond .ne 6, 3) := by decide +kernel
theorem dX4_rootKinds_29 : decode cX4_rootKinds 29 = .ok (.iinc 1 1, 3) := by decide +kernel
theorem dX4_rootKinds_32 : decode cX4_rootKinds 32 = .ok (.iinc 2 1, 3) := by decide +kernel
theorem dX4_rootKinds_35 : decode cX4_rootKinds 35 = .ok (.goto (-31), 3) := by decide +kernel
theorem dX4_rootKinds_38 : decode cX4_rootKinds 38 = .ok (.iload_n 1, 1) := by decide +kernel
theorem dX4_rootKinds_39 : decode cX4_rootKinds 39 = .ok (.ireturn, 1) := by decide +kernel
theorem dX4_differBits_0 : decode cX4_differBits 0 = .ok (.iconst 0, 1) := by decide +kernel
theorem dX4_differBits_1 : decode cX4_differBits 1 = .ok (.istore_n 3, 1) := by decide +kernel
theorem dX4_differBits_2 : decode cX4_differBits 2 = .ok (.iconst 0, 1) := by decide +kernel
theorem dX4_differBits_3 : decode cX4_differBits 3 = .ok (.istore 4, 2) := by decide +kernel
theorem dX4_differBits_5 : decode cX4_differBits 5 = .ok (.iload 4, 2) := by decide +kernel
theorem dX4_differBits_7 : decode cX4_differBits 7 = .ok (.aload_n 0, 1) := by decide +kernel
theorem dX4_differBits_8 : decode cX4_differBits 8 = .ok (.getfield 22, 3) := by decide +kernel
theorem dX4_differBits_11 : decode cX4_differBits 11 = .ok (.getfield 59, 3) := by decide +kernel
theorem dX4_differBits_14 : decode cX4_differBits 14 = .ok (.if_icmp .ge 30, 3) := by decide +kernel
theorem dX4_differBits_17 : decode cX4_differBits 17 = .ok (.aload_n 0, 1) := by decide +kernel
theorem dX4_differBits_18 : decode cX4_differBits 18 = .ok (.getfield 26, 3) := by decide +kernel
theorem dX4_differBits_21 : decode cX4_differBits 21 = .ok (.iload_n 1, 1) := by decide +kernel
theorem dX4_differBits_22 : decode cX4_differBits 22 = .ok (.iload_n 2, 1) := by decide +kernel
theorem dX4_differBits_23 : decode cX4_differBits 23 = .ok (.iload 4, 2) := by decide +kernel
theorem dX4_differBits_25 : decode cX4_differBits 25 = .ok (.invokevirtual 72, 3) := by decide +kernel
theorem dX4_differBits_28 : decode cX4_differBits 28 = .ok (.ifCond .ne 10, 3) := by decide +kernel
theorem dX4_differBits_31 : decode cX4_differBits 31 = .ok (.iload_n 3, 1) := by decide +kernel
theorem dX4_differBits_32 : decode cX4_differBits 32 = .ok (.iconst 1, 1) := by decide +kernel
theorem dX4_differBits_33 : decode cX4_differBits 33 = .ok (.iload 4, 2) := by decide +kernel
theorem dX4_differBits_35 : decode cX4_differBits 35 = .ok (.ishl, 1) := by decide +kernel
theorem dX4_differBits_36 : decode cX4_differBits 36 = .ok (.ior, 1) := by decide +kernel
theorem dX4_differBits_37 : decode cX4_differBits 37 = .ok (.istore_n 3, 1) := by decide +kernel
theorem dX4_differBits_38 : decode cX4_differBits 38 = .ok (.iinc 4 1, 3) := by decide +kernel
theorem dX4_differBits_41 : decode cX4_differBits 41 = .ok (.goto (-36), 3) := by decide +kernel
theorem dX4_differBits_44 : decode cX4_differBits 44 = .ok (.iload_n 3, 1) := by decide +kernel
theorem dX4_differBits_45 : decode cX4_differBits 45 = .ok (.ireturn, 1) := by decide +kernel
theorem dX4_tornBits_0 : decode cX4_tornBits 0 = .ok (.iconst 0, 1) := by decide +kernel
theorem dX4_tornBits_1 : decode cX4_tornBits 1 = .ok (.istore_n 1, 1) := by decide +kernel
theorem dX4_tornBits_2 : decode cX4_tornBits 2 = .ok (.iconst 1, 1) := by decide +kernel
theorem dX4_tornBits_3 : decode cX4_tornBits 3 = .ok (.istore_n 2, 1) := by decide +kernel
theorem dX4_tornBits_4 : decode cX4_tornBits 4 = .ok (.iload_n 2, 1) := by decide +kernel
theorem dX4_tornBits_5 : decode cX4_tornBits 5 = .ok (.aload_n 0, 1) := by decide +kernel
theorem dX4_tornBits_6 : decode cX4_tornBits 6 = .ok (.getfield 22, 3) := by decide +kernel
theorem dX4_tornBits_9 : decode cX4_tornBits 9 = .ok (.getfield 50, 3) := by decide +kernel
theorem dX4_tornBits_12 : decode cX4_tornBits 12 = .ok (.if_icmp .ge 18, 3) := by decide +kernel
theorem dX4_tornBits_15 : decode cX4_tornBits 15 = .ok (.iload_n 1, 1) := by decide +kernel
theorem dX4_tornBits_16 : decode cX4_tornBits 16 = .ok (.aload_n 0, 1) := by decide +kernel
theorem dX4_tornBits_17 : decode cX4_tornBits 17 = .ok (.iconst 0, 1) := by decide +kernel
theorem dX4_tornBits_18 : decode cX4_tornBits 18 = .ok (.iload_n 2, 1) := by decide +kernel
theorem dX4_tornBits_19 : decode cX4_tornBits 19 = .ok (.invokevirtual 76, 3) := by decide +kernel
theorem dX4_tornBits_22 : decode cX4_tornBits 22 = .ok (.ior, 1) := by decide +kernel
theorem dX4_tornBits_23 : decode cX4_tornBits 23 = .ok (.istore_n 1, 1) := by decide +kernel
theorem dX4_tornBits_24 : decode cX4_tornBits 24 = .ok (.iinc 2 1, 3) := by decide +kernel
theorem dX4_tornBits_27 : decode cX4_tornBits 27 = .ok (.goto (-23), 3) := by decide +kernel
theorem dX4_tornBits_30 : decode cX4_tornBits 30 = .ok (.iload_n 1, 1) := by decide +kernel
theorem dX4_tornBits_31 : decode cX4_tornBits 31 = .ok (.ireturn, 1) := by decide +kernel
theorem dX4_greatestStamp_0 : decode cX4_greatestStamp 0 = .ok (.iconst 0, 1) := by decide +kernel
theorem dX4_greatestStamp_1 : decode cX4_greatestStamp 1 = .ok (.istore_n 2, 1) := by decide +kernel
theorem dX4_greatestStamp_2 : decode cX4_greatestStamp 2 = .ok (.iconst 0, 1) := by decide +kernel
theorem dX4_greatestStamp_3 : decode cX4_greatestStamp 3 = .ok (.istore_n 3, 1) := by decide +kernel
theorem dX4_greatestStamp_4 : decode cX4_greatestStamp 4 = .ok (.iload_n 3, 1) := by decide +kernel
theorem dX4_greatestStamp_5 : decode cX4_greatestStamp 5 = .ok (.aload_n 0, 1) := by decide +kernel
theorem dX4_greatestStamp_6 : decode cX4_greatestStamp 6 = .ok (.getfield 22, 3) := by decide +kernel
theorem dX4_greatestStamp_9 : decode cX4_greatestStamp 9 = .ok (.getfield 50, 3) := by decide +kernel
theorem dX4_greatestStamp_12 : decode cX4_greatestStamp 12 = .ok (.if_icmp .ge 23, 3) := by decide +kernel
theorem dX4_greatestStamp_15 : decode cX4_greatestStamp 15 = .ok (.iload_n 2, 1) := by decide +kernel
theorem dX4_greatestStamp_16 : decode cX4_greatestStamp 16 = .ok (.aload_n 0, 1) := by decide +kernel
theorem dX4_greatestStamp_17 : decode cX4_greatestStamp 17 = .ok (.getfield 26, 3) := by decide +kernel
theorem dX4_greatestStamp_20 : decode cX4_greatestStamp 20 = .ok (.iload_n 3, 1) := by decide +kernel
theorem dX4_greatestStamp_21 : decode cX4_greatestStamp 21 = .ok (.iload_n 1, 1) := by decide +kernel
theorem dX4_greatestStamp_22 : decode cX4_greatestStamp 22 = .ok (.invokevirtual 80, 3) := by decide +kernel
theorem dX4_greatestStamp_25 : decode cX4_greatestStamp 25 = .ok (.invokestatic 83, 3) := by decide +kernel
theorem dX4_greatestStamp_28 : decode cX4_greatestStamp 28 = .ok (.istore_n 2, 1) := by decide +kernel
theorem dX4_greatestStamp_29 : decode cX4_greatestStamp 29 = .ok (.iinc 3 1, 3) := by decide +kernel
theorem dX4_greatestStamp_32 : decode cX4_greatestStamp 32 = .ok (.goto (-28), 3) := by decide +kernel
theorem dX4_greatestStamp_35 : decode cX4_greatestStamp 35 = .ok (.iload_n 2, 1) := by decide +kernel
theorem dX4_greatestStamp_36 : decode cX4_greatestStamp 36 = .ok (.ireturn, 1) := by decide +kernel
theorem dX4_visitedBits_0 : decode cX4_visitedBits 0 = .ok (.aload_n 0, 1) := by decide +kernel
theorem dX4_visitedBits_1 : decode cX4_visitedBits 1 = .ok (.getfield 12, 3) := by decide +kernel
theorem dX4_visitedBits_4 : decode cX4_visitedBits 4 = .ok (.iload_n 1, 1) := by decide +kernel
theorem dX4_visitedBits_5 : decode cX4_visitedBits 5 = .ok (.aaload, 1) := by decide +kernel
theorem dX4_visitedBits_6 : decode cX4_visitedBits 6 = .ok (.astore_n 3, 1) := by decide +kernel
theorem dX4_visitedBits_7 : decode cX4_visitedBits 7 = .ok (.aload_n 0, 1) := by decide +kernel
theorem dX4_visitedBits_8 : decode cX4_visitedBits 8 = .ok (.getfield 12, 3) := by decide +kernel
theorem dX4_visitedBits_11 : decode cX4_visitedBits 11 = .ok (.iload_n 2, 1) := by decide +kernel
theorem dX4_visitedBits_12 : decode cX4_visitedBits 12 = .ok (.aaload, 1) := by decide +kernel
theorem dX4_visitedBits_13 : decode cX4_visitedBits 13 = .ok (.astore 4, 2) := by decide +kernel
theorem dX4_visitedBits_15 : decode cX4_visitedBits 15 = .ok (.iconst 0, 1) := by decide +kernel
theorem dX4_visitedBits_16 : decode cX4_visitedBits 16 = .ok (.istore 5, 2) := by decide +kernel
theorem dX4_visitedBits_18 : decode cX4_visitedBits 18 = .ok (.iconst 0, 1) := by decide +kernel
theorem dX4_visitedBits_19 : decode cX4_visitedBits 19 = .ok (.istore 6, 2) := by decide +kernel
theorem dX4_visitedBits_21 : decode cX4_visitedBits 21 = .ok (.iload 6, 2) := by decide +kernel
theorem dX4_visitedBits_23 : decode cX4_visitedBits 23 = .ok (.aload_n 3, 1) := by decide +kernel
theorem dX4_visitedBits_24 : decode cX4_visitedBits 24 = .ok (.getfield 43, 3) := by decide +kernel
theorem dX4_visitedBits_27 : decode cX4_visitedBits 27 = .ok (.if_icmp .ge 70, 3) := by decide +kernel
theorem dX4_visitedBits_30 : decode cX4_visitedBits 30 = .ok (.aload_n 3, 1) := by decide +kernel
theorem dX4_visitedBits_31 : decode cX4_visitedBits 31 = .ok (.getfield 88, 3) := by decide +kernel
theorem dX4_visitedBits_34 : decode cX4_visitedBits 34 = .ok (.iload 6, 2) := by decide +kernel
theorem dX4_visitedBits_36 : decode cX4_visitedBits 36 = .ok (.iaload, 1) := by decide +kernel
theorem dX4_visitedBits_37 : decode cX4_visitedBits 37 = .ok (.istore 7, 2) := by decide +kernel
theorem dX4_visitedBits_39 : decode cX4_visitedBits 39 = .ok (.iload 7, 2) := by decide +kernel
theorem dX4_visitedBits_41 : decode cX4_visitedBits 41 = .ok (.iconst (-1), 1) := by decide +kernel
theorem dX4_visitedBits_42 : decode cX4_visitedBits 42 = .ok (.if_icmp .eq 13, 3) := by decide +kernel
theorem dX4_visitedBits_45 : decode cX4_visitedBits 45 = .ok (.iload 5, 2) := by decide +kernel
theorem dX4_visitedBits_47 : decode cX4_visitedBits 47 = .ok (.iload 7, 2) := by decide +kernel
theorem dX4_visitedBits_49 : decode cX4_visitedBits 49 = .ok (.iushr, 1) := by decide +kernel
theorem dX4_visitedBits_50 : decode cX4_visitedBits 50 = .ok (.iconst 1, 1) := by decide +kernel
theorem dX4_visitedBits_51 : decode cX4_visitedBits 51 = .ok (.iand, 1) := by decide +kernel
theorem dX4_visitedBits_52 : decode cX4_visitedBits 52 = .ok (.ifCond .eq 7, 3) := by decide +kernel
theorem dX4_visitedBits_55 : decode cX4_visitedBits 55 = .ok (.iconst 1, 1) := by decide +kernel
theorem dX4_visitedBits_56 : decode cX4_visitedBits 56 = .ok (.goto 4, 3) := by decide +kernel
theorem dX4_visitedBits_59 : decode cX4_visitedBits 59 = .ok (.iconst 0, 1) := by decide +kernel
theorem dX4_visitedBits_60 : decode cX4_visitedBits 60 = .ok (.istore 8, 2) := by decide +kernel
theorem dX4_visitedBits_62 : decode cX4_visitedBits 62 = .ok (.iload 8, 2) := by decide +kernel
theorem dX4_visitedBits_64 : decode cX4_visitedBits 64 = .ok (.ifCond .eq 27, 3) := by decide +kernel
theorem dX4_visitedBits_67 : decode cX4_visitedBits 67 = .ok (.aload 4, 2) := by decide +kernel
theorem dX4_visitedBits_69 : decode cX4_visitedBits 69 = .ok (.aload_n 3, 1) := by decide +kernel
theorem dX4_visitedBits_70 : decode cX4_visitedBits 70 = .ok (.getfield 47, 3) := by decide +kernel
theorem dX4_visitedBits_73 : decode cX4_visitedBits 73 = .ok (.iload 6, 2) := by decide +kernel
theorem dX4_visitedBits_75 : decode cX4_visitedBits 75 = .ok (.iaload, 1) := by decide +kernel
theorem dX4_visitedBits_76 : decode cX4_visitedBits 76 = .ok (.invokevirtual 91, 3) := by decide +kernel
theorem dX4_visitedBits_79 : decode cX4_visitedBits 79 = .ok (.ifCond .ne 12, 3) := by decide +kernel
theorem dX4_visitedBits_82 : decode cX4_visitedBits 82 = .ok (.iload 5, 2) := by decide +kernel
theorem dX4_visitedBits_84 : decode cX4_visitedBits 84 = .ok (.iconst 1, 1) := by decide +kernel
theorem dX4_visitedBits_85 : decode cX4_visitedBits 85 = .ok (.iload 6, 2) := by decide +kernel
theorem dX4_visitedBits_87 : decode cX4_visitedBits 87 = .ok (.ishl, 1) := by decide +kernel
theorem dX4_visitedBits_88 : decode cX4_visitedBits 88 = .ok (.ior, 1) := by decide +kernel
theorem dX4_visitedBits_89 : decode cX4_visitedBits 89 = .ok (.istore 5, 2) := by decide +kernel
theorem dX4_visitedBits_91 : decode cX4_visitedBits 91 = .ok (.iinc 6 1, 3) := by decide +kernel
theorem dX4_visitedBits_94 : decode cX4_visitedBits 94 = .ok (.goto (-73), 3) := by decide +kernel
theorem dX4_visitedBits_97 : decode cX4_visitedBits 97 = .ok (.iload 5, 2) := by decide +kernel
theorem dX4_visitedBits_99 : decode cX4_visitedBits 99 = .ok (.ireturn, 1) := by decide +kernel
theorem dX4_findOffers_0 : decode cX4_findOffers 0 = .ok (.aload_n 0, 1) := by decide +kernel
theorem dX4_findOffers_1 : decode cX4_findOffers 1 = .ok (.iload_n 2, 1) := by decide +kernel
theorem dX4_findOffers_2 : decode cX4_findOffers 2 = .ok (.iload_n 1, 1) := by decide +kernel
theorem dX4_findOffers_3 : decode cX4_findOffers 3 = .ok (.invokevirtual 95, 3) := by decide +kernel
theorem dX4_findOffers_6 : decode cX4_findOffers 6 = .ok (.istore_n 3, 1) := by decide +kernel
theorem dX4_findOffers_7 : decode cX4_findOffers 7 = .ok (.aload_n 0, 1) := by decide +kernel
theorem dX4_findOffers_8 : decode cX4_findOffers 8 = .ok (.getfield 12, 3) := by decide +kernel
theorem dX4_findOffers_11 : decode cX4_findOffers 11 = .ok (.iload_n 2, 1) := by decide +kernel
theorem dX4_findOffers_12 : decode cX4_findOffers 12 = .ok (.aaload, 1) := by decide +kernel
theorem dX4_findOffers_13 : decode cX4_findOffers 13 = .ok (.astore 4, 2) := by decide +kernel
theorem dX4_findOffers_15 : decode cX4_findOffers 15 = .ok (.iconst 0, 1) := by decide +kernel
theorem dX4_findOffers_16 : decode cX4_findOffers 16 = .ok (.istore 5, 2) := by decide +kernel
theorem dX4_findOffers_18 : decode cX4_findOffers 18 = .ok (.iconst 0, 1) := by decide +kernel
theorem dX4_findOffers_19 : decode cX4_findOffers 19 = .ok (.istore 6, 2) := by decide +kernel
theorem dX4_findOffers_21 : decode cX4_findOffers 21 = .ok (.iload 6, 2) := by decide +kernel
theorem dX4_findOffers_23 : decode cX4_findOffers 23 = .ok (.aload 4, 2) := by decide +kernel
theorem dX4_findOffers_25 : decode cX4_findOffers 25 = .ok (.getfield 98, 3) := by decide +kernel
theorem dX4_findOffers_28 : decode cX4_findOffers 28 = .ok (.if_icmp .ge 82, 3) := by decide +kernel
theorem dX4_findOffers_31 : decode cX4_findOffers 31 = .ok (.aload 4, 2) := by decide +kernel
theorem dX4_findOffers_33 : decode cX4_findOffers 33 = .ok (.getfield 101, 3) := by decide +kernel
theorem dX4_findOffers_36 : decode cX4_findOffers 36 = .ok (.iload 6, 2) := by decide +kernel
theorem dX4_findOffers_38 : decode cX4_findOffers 38 = .ok (.iaload, 1) := by decide +kernel
theorem dX4_findOffers_39 : decode cX4_findOffers 39 = .ok (.istore 7, 2) := by decide +kernel
theorem dX4_findOffers_41 : decode cX4_findOffers 41 = .ok (.iload_n 3, 1) := by decide +kernel
theorem dX4_findOffers_42 : decode cX4_findOffers 42 = .ok (.aload 4, 2) := by decide +kernel
theorem dX4_findOffers_44 : decode cX4_findOffers 44 = .ok (.getfield 104, 3) := by decide +kernel
theorem dX4_findOffers_47 : decode cX4_findOffers 47 = .ok (.iload 7, 2) := by decide +kernel
theorem dX4_findOffers_49 : decode cX4_findOffers 49 = .ok (.iaload, 1) := by decide +kernel
theorem dX4_findOffers_50 : decode cX4_findOffers 50 = .ok (.iushr, 1) := by decide +kernel
theorem dX4_findOffers_51 : decode cX4_findOffers 51 = .ok (.iconst 1, 1) := by decide +kernel
theorem dX4_findOffers_52 : decode cX4_findOffers 52 = .ok (.iand, 1) := by decide +kernel
theorem dX4_findOffers_53 : decode cX4_findOffers 53 = .ok (.ifCond .eq 7, 3) := by decide +kernel
theorem dX4_findOffers_56 : decode cX4_findOffers 56 = .ok (.iconst 1, 1) := by decide +kernel
theorem dX4_findOffers_57 : decode cX4_findOffers 57 = .ok (.goto 4, 3) := by decide +kernel
theorem dX4_findOffers_60 : decode cX4_findOffers 60 = .ok (.iconst 0, 1) := by decide +kernel
theorem dX4_findOffers_61 : decode cX4_findOffers 61 = .ok (.istore 8, 2) := by decide +kernel
theorem dX4_findOffers_63 : decode cX4_findOffers 63 = .ok (.iload 8, 2) := by decide +kernel
theorem dX4_findOffers_65 : decode cX4_findOffers 65 = .ok (.ifCond .eq 39, 3) := by decide +kernel
theorem dX4_findOffers_68 : decode cX4_findOffers 68 = .ok (.aload_n 0, 1) := by decide +kernel
theorem dX4_findOffers_69 : decode cX4_findOffers 69 = .ok (.getfield 26, 3) := by decide +kernel
theorem dX4_findOffers_72 : decode cX4_findOffers 72 = .ok (.iload_n 1, 1) := by decide +kernel
theorem dX4_findOffers_73 : decode cX4_findOffers 73 = .ok (.iload 7, 2) := by decide +kernel
theorem dX4_findOffers_75 : decode cX4_findOffers 75 = .ok (.invokevirtual 55, 3) := by decide +kernel
theorem dX4_findOffers_78 : decode cX4_findOffers 78 = .ok (.ifCond .eq 14, 3) := by decide +kernel
theorem dX4_findOffers_81 : decode cX4_findOffers 81 = .ok (.aload_n 0, 1) := by decide +kernel
theorem dX4_findOffers_82 : decode cX4_findOffers 82 = .ok (.iload_n 2, 1) := by decide +kernel
theorem dX4_findOffers_83 : decode cX4_findOffers 83 = .ok (.iload_n 1, 1) := by decide +kernel
theorem dX4_findOffers_84 : decode cX4_findOffers 84 = .ok (.iload 7, 2) := by decide +kernel
theorem dX4_findOffers_86 : decode cX4_findOffers 86 = .ok (.invokevirtual 107, 3) := by decide +kernel
theorem dX4_findOffers_89 : decode cX4_findOffers 89 = .ok (.ifCond .eq 15, 3) := by decide +kernel
theorem dX4_findOffers_92 : decode cX4_findOffers 92 = .ok (.aload_n 0, 1) := by decide +kernel
theorem dX4_findOffers_93 : decode cX4_findOffers 93 = .ok (.getfield 18, 3) := by decide +kernel
theorem dX4_findOffers_96 : decode cX4_findOffers 96 = .ok (.iload 5, 2) := by decide +kernel
theorem dX4_findOffers_98 : decode cX4_findOffers 98 = .ok (.iload 7, 2) := by decide +kernel
theorem dX4_findOffers_100 : decode cX4_findOffers 100 = .ok (.iastore, 1) := by decide +kernel
theorem dX4_findOffers_101 : decode cX4_findOffers 101 = .ok (.iinc 5 1, 3) := by decide +kernel
theorem dX4_findOffers_104 : decode cX4_findOffers 104 = .ok (.iinc 6 1, 3) := by decide +kernel
theorem dX4_findOffers_107 : decode cX4_findOffers 107 = .ok (.goto (-86), 3) := by decide +kernel
theorem dX4_findOffers_110 : decode cX4_findOffers 110 = .ok (.iload 5, 2) := by decide +kernel
theorem dX4_findOffers_112 : decode cX4_findOffers 112 = .ok (.ireturn, 1) := by decide +kernel
theorem dX4_winsOver_0 : decode cX4_winsOver 0 = .ok (.aload_n 0, 1) := by decide +kernel
theorem dX4_winsOver_1 : decode cX4_winsOver 1 = .ok (.getfield 26, 3) := by decide +kernel
theorem dX4_winsOver_4 : decode cX4_winsOver 4 = .ok (.iload_n 1, 1) := by decide +kernel
theorem dX4_winsOver_5 : decode cX4_winsOver 5 = .ok (.iload_n 3, 1) := by decide +kernel
theorem dX4_winsOver_6 : decode cX4_winsOver 6 = .ok (.invokevirtual 110, 3) := by decide +kernel
theorem dX4_winsOver_9 : decode cX4_winsOver 9 = .ok (.istore 4, 2) := by decide +kernel
theorem dX4_winsOver_11 : decode cX4_winsOver 11 = .ok (.aload_n 0, 1) := by decide +kernel
theorem dX4_winsOver_12 : decode cX4_winsOver 12 = .ok (.getfield 26, 3) := by decide +kernel
theorem dX4_winsOver_15 : decode cX4_winsOver 15 = .ok (.iload_n 2, 1) := by decide +kernel
theorem dX4_winsOver_16 : decode cX4_winsOver 16 = .ok (.iload_n 3, 1) := by decide +kernel
theorem dX4_winsOver_17 : decode cX4_winsOver 17 = .ok (.invokevirtual 110, 3) := by decide +kernel
theorem dX4_winsOver_20 : decode cX4_winsOver 20 = .ok (.istore 5, 2) := by decide +kernel
theorem dX4_winsOver_22 : decode cX4_winsOver 22 = .ok (.aload_n 0, 1) := by decide +kernel
theorem dX4_winsOver_23 : decode cX4_winsOver 23 = .ok (.getfield 26, 3) := by decide +kernel
theorem dX4_winsOver_26 : decode cX4_winsOver 26 = .ok (.iload_n 1, 1) := by decide +kernel
theorem dX4_winsOver_27 : decode cX4_winsOver 27 = .ok (.iload_n 3, 1) := by decide +kernel
theorem dX4_winsOver_28 : decode cX4_winsOver 28 = .ok (.invokevirtual 80, 3) := by decide +kernel
theorem dX4_winsOver_31 : decode cX4_winsOver 31 = .ok (.istore 6, 2) := by decide +kernel
theorem dX4_winsOver_33 : decode cX4_winsOver 33 = .ok (.aload_n 0, 1) := by decide +kernel
theorem dX4_winsOver_34 : decode cX4_winsOver 34 = .ok (.getfield 26, 3) := by decide +kernel
theorem dX4_winsOver_37 : decode cX4_winsOver 37 = .ok (.iload_n 2, 1) := by decide +kernel
theorem dX4_winsOver_38 : decode cX4_winsOver 38 = .ok (.iload_n 3, 1) := by decide +kernel
theorem dX4_winsOver_39 : decode cX4_winsOver 39 = .ok (.invokevirtual 80, 3) := by decide +kernel
theorem dX4_winsOver_42 : decode cX4_winsOver 42 = .ok (.istore 7, 2) := by decide +kernel
theorem dX4_winsOver_44 : decode cX4_winsOver 44 = .ok (.aload_n 0, 1) := by decide +kernel
theorem dX4_winsOver_45 : decode cX4_winsOver 45 = .ok (.getfield 22, 3) := by decide +kernel
theorem dX4_winsOver_48 : decode cX4_winsOver 48 = .ok (.getfield 113, 3) := by decide +kernel
theorem dX4_winsOver_51 : decode cX4_winsOver 51 = .ok (.ifCond .ne 38, 3) := by decide +kernel
theorem dX4_winsOver_54 : decode cX4_winsOver 54 = .ok (.iload 6, 2) := by decide +kernel
theorem dX4_winsOver_56 : decode cX4_winsOver 56 = .ok (.iload 7, 2) := by decide +kernel
theorem dX4_winsOver_58 : decode cX4_winsOver 58 = .ok (.if_icmp .ne 18, 3) := by decide +kernel
theorem dX4_winsOver_61 : decode cX4_winsOver 61 = .ok (.iload 4, 2) := by decide +kernel
theorem dX4_winsOver_63 : decode cX4_winsOver 63 = .ok (.iload 5, 2) := by decide +kernel
theorem dX4_winsOver_65 : decode cX4_winsOver 65 = .ok (.if_icmp .le 7, 3) := by decide +kernel
theorem dX4_winsOver_68 : decode cX4_winsOver 68 = .ok (.iconst 1, 1) := by decide +kernel
theorem dX4_winsOver_69 : decode cX4_winsOver 69 = .ok (.goto 19, 3) := by decide +kernel
theorem dX4_winsOver_72 : decode cX4_winsOver 72 = .ok (.iconst 0, 1) := by decide +kernel
theorem dX4_winsOver_73 : decode cX4_winsOver 73 = .ok (.goto 15, 3) := by decide +kernel
theorem dX4_winsOver_76 : decode cX4_winsOver 76 = .ok (.iload 6, 2) := by decide +kernel
theorem dX4_winsOver_78 : decode cX4_winsOver 78 = .ok (.iload 7, 2) := by decide +kernel
theorem dX4_winsOver_80 : decode cX4_winsOver 80 = .ok (.if_icmp .le 7, 3) := by decide +kernel
theorem dX4_winsOver_83 : decode cX4_winsOver 83 = .ok (.iconst 1, 1) := by decide +kernel
theorem dX4_winsOver_84 : decode cX4_winsOver 84 = .ok (.goto 4, 3) := by decide +kernel
theorem dX4_winsOver_87 : decode cX4_winsOver 87 = .ok (.iconst 0, 1) := by decide +kernel
theorem dX4_winsOver_88 : decode cX4_winsOver 88 = .ok (.ireturn, 1) := by decide +kernel
theorem dX4_winsOver_89 : decode cX4_winsOver 89 = .ok (.iload 4, 2) := by decide +kernel
theorem dX4_winsOver_91 : decode cX4_winsOver 91 = .ok (.iload 5, 2) := by decide +kernel
theorem dX4_winsOver_93 : decode cX4_winsOver 93 = .ok (.if_icmp .ne 16, 3) := by decide +kernel
theorem dX4_winsOver_96 : decode cX4_winsOver 96 = .ok (.iload 6, 2) := by decide +kernel
theorem dX4_winsOver_98 : decode cX4_winsOver 98 = .ok (.iload 7, 2) := by decide +kernel
theorem dX4_winsOver_100 : decode cX4_winsOver 100 = .ok (.if_icmp .le 7, 3) := by decide +kernel
theorem dX4_winsOver_103 : decode cX4_winsOver 103 = .ok (.iconst 1, 1) := by decide +kernel
theorem dX4_winsOver_104 : decode cX4_winsOver 104 = .ok (.goto 4, 3) := by decide +kernel
theorem dX4_winsOver_107 : decode cX4_winsOver 107 = .ok (.iconst 0, 1) := by decide +kernel
theorem dX4_winsOver_108 : decode cX4_winsOver 108 = .ok (.ireturn, 1) := by decide +kernel
theorem dX4_winsOver_109 : decode cX4_winsOver 109 = .ok (.aload_n 0, 1) := by decide +kernel
theorem dX4_winsOver_110 : decode cX4_winsOver 110 = .ok (.getfield 22, 3) := by decide +kernel
theorem dX4_winsOver_113 : decode cX4_winsOver 113 = .ok (.getfield 113, 3) := by decide +kernel
theorem dX4_winsOver_116 : decode cX4_winsOver 116 = .ok (.iconst 1, 1) := by decide +kernel
theorem dX4_winsOver_117 : decode cX4_winsOver 117 = .ok (.if_icmp .ne 16, 3) := by decide +kernel
theorem dX4_winsOver_120 : decode cX4_winsOver 120 = .ok (.iload 4, 2) := by decide +kernel
theorem dX4_winsOver_122 : decode cX4_winsOver 122 = .ok (.iload 5, 2) := by decide +kernel
theorem dX4_winsOver_124 : decode cX4_winsOver 124 = .ok (.if_icmp .le 7, 3) := by decide +kernel
theorem dX4_winsOver_127 : decode cX4_winsOver 127 = .ok (.iconst 1, 1) := by decide +kernel
theorem dX4_winsOver_128 : decode cX4_winsOver 128 = .ok (.goto 4, 3) := by decide +kernel
theorem dX4_winsOver_131 : decode cX4_winsOver 131 = .ok (.iconst 0, 1) := by decide +kernel
theorem dX4_winsOver_132 : decode cX4_winsOver 132 = .ok (.ireturn, 1) := by decide +kernel
theorem dX4_winsOver_133 : decode cX4_winsOver 133 = .ok (.iload 4, 2) := by decide +kernel
theorem dX4_winsOver_135 : decode cX4_winsOver 135 = .ok (.iconst (-1), 1) := by decide +kernel
theorem dX4_winsOver_136 : decode cX4_winsOver 136 = .ok (.if_icmp .eq 20, 3) := by decide +kernel
theorem dX4_winsOver_139 : decode cX4_winsOver 139 = .ok (.iload 5, 2) := by decide +kernel
theorem dX4_winsOver_141 : decode cX4_winsOver 141 = .ok (.iconst (-1), 1) := by decide +kernel
theorem dX4_winsOver_142 : decode cX4_winsOver 142 = .ok (.if_icmp .eq 10, 3) := by decide +kernel
theorem dX4_winsOver_145 : decode cX4_winsOver 145 = .ok (.iload 4, 2) := by decide +kernel
theorem dX4_winsOver_147 : decode cX4_winsOver 147 = .ok (.iload 5, 2) := by decide +kernel
theorem dX4_winsOver_149 : decode cX4_winsOver 149 = .ok (.if_icmp .ge 7, 3) := by decide +kernel
theorem dX4_winsOver_152 : decode cX4_winsOver 152 = .ok (.iconst 1, 1) := by decide +kernel
theorem dX4_winsOver_153 : decode cX4_winsOver 153 = .ok (.goto 4, 3) := by decide +kernel
theorem dX4_winsOver_156 : decode cX4_winsOver 156 = .ok (.iconst 0, 1) := by decide +kernel
theorem dX4_winsOver_157 : decode cX4_winsOver 157 = .ok (.ireturn, 1) := by decide +kernel
theorem dX4_tryPut_0 : decode cX4_tryPut 0 = .ok (.aload_n 0, 1) := by decide +kernel
theorem dX4_tryPut_1 : decode cX4_tryPut 1 = .ok (.getfield 26, 3) := by decide +kernel
theorem dX4_tryPut_4 : decode cX4_tryPut 4 = .ok (.iload_n 1, 1) := by decide +kernel
theorem dX4_tryPut_5 : decode cX4_tryPut 5 = .ok (.iload_n 2, 1) := by decide +kernel
theorem dX4_tryPut_6 : decode cX4_tryPut 6 = .ok (.invokevirtual 55, 3) := by decide +kernel
theorem dX4_tryPut_9 : decode cX4_tryPut 9 = .ok (.ifCond .eq 18, 3) := by decide +kernel
theorem dX4_tryPut_12 : decode cX4_tryPut 12 = .ok (.aload_n 0, 1) := by decide +kernel
theorem dX4_tryPut_13 : decode cX4_tryPut 13 = .ok (.getfield 26, 3) := by decide +kernel
theorem dX4_tryPut_16 : decode cX4_tryPut 16 = .ok (.iload_n 1, 1) := by decide +kernel
theorem dX4_tryPut_17 : decode cX4_tryPut 17 = .ok (.iload_n 2, 1) := by decide +kernel
theorem dX4_tryPut_18 : decode cX4_tryPut 18 = .ok (.invokevirtual 110, 3) := by decide +kernel
theorem dX4_tryPut_21 : decode cX4_tryPut 21 = .ok (.iload_n 3, 1) := by decide +kernel
theorem dX4_tryPut_22 : decode cX4_tryPut 22 = .ok (.if_icmp .ne 5, 3) := by decide +kernel
theorem dX4_tryPut_25 : decode cX4_tryPut 25 = .ok (.iconst 1, 1) := by decide +kernel
theorem dX4_tryPut_26 : decode cX4_tryPut 26 = .ok (.ireturn, 1) := by decide +kernel
theorem dX4_tryPut_27 : decode cX4_tryPut 27 = .ok (.aload_n 0, 1) := by decide +kernel
theorem dX4_tryPut_28 : decode cX4_tryPut 28 = .ok (.getfield 26, 3) := by decide +kernel
theorem dX4_tryPut_31 : decode cX4_tryPut 31 = .ok (.iload_n 1, 1) := by decide +kernel
theorem dX4_tryPut_32 : decode cX4_tryPut 32 = .ok (.iload_n 2, 1) := by decide +kernel
theorem dX4_tryPut_33 : decode cX4_tryPut 33 = .ok (.iload_n 3, 1) := by decide +kernel
theorem dX4_tryPut_34 : decode cX4_tryPut 34 = .ok (.invokevirtual 116, 3) := by decide +kernel
theorem dX4_tryPut_37 : decode cX4_tryPut 37 = .ok (.aload_n 0, 1) := by decide +kernel
theorem dX4_tryPut_38 : decode cX4_tryPut 38 = .ok (.getfield 12, 3) := by decide +kernel
theorem dX4_tryPut_41 : decode cX4_tryPut 41 = .ok (.iload_n 1, 1) := by decide +kernel
theorem dX4_tryPut_42 : decode cX4_tryPut 42 = .ok (.aaload, 1) := by decide +kernel
theorem dX4_tryPut_43 : decode cX4_tryPut 43 = .ok (.aload_n 0, 1) := by decide +kernel
theorem dX4_tryPut_44 : decode cX4_tryPut 44 = .ok (.getfield 22, 3) := by decide +kernel
theorem dX4_tryPut_47 : decode cX4_tryPut 47 = .ok (.aload_n 0, 1) := by decide +kernel
theorem dX4_tryPut_48 : decode cX4_tryPut 48 = .ok (.getfield 26, 3) := by decide +kernel
theorem dX4_tryPut_51 : decode cX4_tryPut 51 = .ok (.iload_n 1, 1) := by decide +kernel
theorem dX4_tryPut_52 : decode cX4_tryPut 52 = .ok (.invokevirtual 39, 3) := by decide +kernel
theorem dX4_tryPut_55 : decode cX4_tryPut 55 = .ok (.iconst 0, 1) := by decide +kernel
theorem dX4_tryPut_56 : decode cX4_tryPut 56 = .ok (.ireturn, 1) := by decide +kernel
theorem dX4_tryDrop_0 : decode cX4_tryDrop 0 = .ok (.aload_n 0, 1) := by decide +kernel
theorem dX4_tryDrop_1 : decode cX4_tryDrop 1 = .ok (.getfield 26, 3) := by decide +kernel
theorem dX4_tryDrop_4 : decode cX4_tryDrop 4 = .ok (.iload_n 1, 1) := by decide +kernel
theorem dX4_tryDrop_5 : decode cX4_tryDrop 5 = .ok (.iload_n 2, 1) := by decide +kernel
theorem dX4_tryDrop_6 : decode cX4_tryDrop 6 = .ok (.invokevirtual 55, 3) := by decide +kernel
theorem dX4_tryDrop_9 : decode cX4_tryDrop 9 = .ok (.ifCond .eq 15, 3) := by decide +kernel
theorem dX4_tryDrop_12 : decode cX4_tryDrop 12 = .ok (.aload_n 0, 1) := by decide +kernel
theorem dX4_tryDrop_13 : decode cX4_tryDrop 13 = .ok (.getfield 26, 3) := by decide +kernel
theorem dX4_tryDrop_16 : decode cX4_tryDrop 16 = .ok (.iload_n 1, 1) := by decide +kernel
theorem dX4_tryDrop_17 : decode cX4_tryDrop 17 = .ok (.iload_n 2, 1) := by decide +kernel
theorem dX4_tryDrop_18 : decode cX4_tryDrop 18 = .ok (.invokevirtual 62, 3) := by decide +kernel
theorem dX4_tryDrop_21 : decode cX4_tryDrop 21 = .ok (.ifCond .eq 5, 3) := by decide +kernel
theorem dX4_tryDrop_24 : decode cX4_tryDrop 24 = .ok (.iconst 1, 1) := by decide +kernel
theorem dX4_tryDrop_25 : decode cX4_tryDrop 25 = .ok (.ireturn, 1) := by decide +kernel
theorem dX4_tryDrop_26 : decode cX4_tryDrop 26 = .ok (.aload_n 0, 1) := by decide +kernel
theorem dX4_tryDrop_27 : decode cX4_tryDrop 27 = .ok (.getfield 26, 3) := by decide +kernel
theorem dX4_tryDrop_30 : decode cX4_tryDrop 30 = .ok (.iload_n 1, 1) := by decide +kernel
theorem dX4_tryDrop_31 : decode cX4_tryDrop 31 = .ok (.iload_n 2, 1) := by decide +kernel
theorem dX4_tryDrop_32 : decode cX4_tryDrop 32 = .ok (.iconst (-1), 1) := by decide +kernel
theorem dX4_tryDrop_33 : decode cX4_tryDrop 33 = .ok (.invokevirtual 116, 3) := by decide +kernel
theorem dX4_tryDrop_36 : decode cX4_tryDrop 36 = .ok (.aload_n 0, 1) := by decide +kernel
theorem dX4_tryDrop_37 : decode cX4_tryDrop 37 = .ok (.getfield 12, 3) := by decide +kernel
theorem dX4_tryDrop_40 : decode cX4_tryDrop 40 = .ok (.iload_n 1, 1) := by decide +kernel
theorem dX4_tryDrop_41 : decode cX4_tryDrop 41 = .ok (.aaload, 1) := by decide +kernel
theorem dX4_tryDrop_42 : decode cX4_tryDrop 42 = .ok (.aload_n 0, 1) := by decide +kernel
theorem dX4_tryDrop_43 : decode cX4_tryDrop 43 = .ok (.getfield 22, 3) := by decide +kernel
theorem dX4_tryDrop_46 : decode cX4_tryDrop 46 = .ok (.aload_n 0, 1) := by decide +kernel
theorem dX4_tryDrop_47 : decode cX4_tryDrop 47 = .ok (.getfield 26, 3) := by decide +kernel
theorem dX4_tryDrop_50 : decode cX4_tryDrop 50 = .ok (.iload_n 1, 1) := by decide +kernel
theorem dX4_tryDrop_51 : decode cX4_tryDrop 51 = .ok (.invokevirtual 39, 3) := by decide +kernel
theorem dX4_tryDrop_54 : decode cX4_tryDrop 54 = .ok (.iconst 0, 1) := by decide +kernel
theorem dX4_tryDrop_55 : decode cX4_tryDrop 55 = .ok (.ireturn, 1) := by decide +kernel
theorem dX4_tryPull_0 : decode cX4_tryPull 0 = .ok (.aload_n 0, 1) := by decide +kernel
theorem dX4_tryPull_1 : decode cX4_tryPull 1 = .ok (.getfield 26, 3) := by decide +kernel
theorem dX4_tryPull_4 : decode cX4_tryPull 4 = .ok (.iload_n 1, 1) := by decide +kernel
theorem dX4_tryPull_5 : decode cX4_tryPull 5 = .ok (.iload_n 2, 1) := by decide +kernel
theorem dX4_tryPull_6 : decode cX4_tryPull 6 = .ok (.invokevirtual 120, 3) := by decide +kernel
theorem dX4_tryPull_9 : decode cX4_tryPull 9 = .ok (.ifCond .eq 5, 3) := by decide +kernel
theorem dX4_tryPull_12 : decode cX4_tryPull 12 = .ok (.iconst 1, 1) := by decide +kernel
theorem dX4_tryPull_13 : decode cX4_tryPull 13 = .ok (.ireturn, 1) := by decide +kernel
theorem dX4_tryPull_14 : decode cX4_tryPull 14 = .ok (.aload_n 0, 1) := by decide +kernel
theorem dX4_tryPull_15 : decode cX4_tryPull 15 = .ok (.iload_n 1, 1) := by decide +kernel
theorem dX4_tryPull_16 : decode cX4_tryPull 16 = .ok (.invokevirtual 65, 3) := by decide +kernel
theorem dX4_tryPull_19 : decode cX4_tryPull 19 = .ok (.aload_n 0, 1) := by decide +kernel
theorem dX4_tryPull_20 : decode cX4_tryPull 20 = .ok (.iload_n 2, 1) := by decide +kernel
theorem dX4_tryPull_21 : decode cX4_tryPull 21 = .ok (.invokevirtual 65, 3) := by decide +kernel
theorem dX4_tryPull_24 : decode cX4_tryPull 24 = .ok (.if_icmp .ne 5, 3) := by decide +kernel
theorem dX4_tryPull_27 : decode cX4_tryPull 27 = .ok (.iconst 2, 1) := by decide +kernel
theorem dX4_tryPull_28 : decode cX4_tryPull 28 = .ok (.ireturn, 1) := by decide +kernel
theorem dX4_tryPull_29 : decode cX4_tryPull 29 = .ok (.aload_n 0, 1) := by decide +kernel
theorem dX4_tryPull_30 : decode cX4_tryPull 30 = .ok (.iload_n 1, 1) := by decide +kernel
theorem dX4_tryPull_31 : decode cX4_tryPull 31 = .ok (.iload_n 2, 1) := by decide +kernel
theorem dX4_tryPull_32 : decode cX4_tryPull 32 = .ok (.invokevirtual 123, 3) := by decide +kernel
theorem dX4_tryPull_35 : decode cX4_tryPull 35 = .ok (.aload_n 0, 1) := by decide +kernel
theorem dX4_tryPull_36 : decode cX4_tryPull 36 = .ok (.getfield 22, 3) := by decide +kernel
theorem dX4_tryPull_39 : decode cX4_tryPull 39 = .ok (.getfield 126, 3) := by decide +kernel
theorem dX4_tryPull_42 : decode cX4_tryPull 42 = .ok (.invokestatic 129, 3) := by decide +kernel
theorem dX4_tryPull_45 : decode cX4_tryPull 45 = .ok (.istore_n 3, 1) := by decide +kernel
theorem dX4_tryPull_46 : decode cX4_tryPull 46 = .ok (.iload_n 3, 1) := by decide +kernel
theorem dX4_tryPull_47 : decode cX4_tryPull 47 = .ok (.ifCond .ne 5, 3) := by decide +kernel
theorem dX4_tryPull_50 : decode cX4_tryPull 50 = .ok (.iconst 3, 1) := by decide +kernel
theorem dX4_tryPull_51 : decode cX4_tryPull 51 = .ok (.ireturn, 1) := by decide +kernel
theorem dX4_tryPull_52 : decode cX4_tryPull 52 = .ok (.iconst 0, 1) := by decide +kernel
theorem dX4_tryPull_53 : decode cX4_tryPull 53 = .ok (.istore 4, 2) := by decide +kernel
theorem dX4_tryPull_55 : decode cX4_tryPull 55 = .ok (.iload 4, 2) := by decide +kernel
theorem dX4_tryPull_57 : decode cX4_tryPull 57 = .ok (.iload_n 3, 1) := by decide +kernel
theorem dX4_tryPull_58 : decode cX4_tryPull 58 = .ok (.if_icmp .ge 25, 3) := by decide +kernel
theorem dX4_tryPull_61 : decode cX4_tryPull 61 = .ok (.aload_n 0, 1) := by decide +kernel
theorem dX4_tryPull_62 : decode cX4_tryPull 62 = .ok (.getfield 26, 3) := by decide +kernel
theorem dX4_tryPull_65 : decode cX4_tryPull 65 = .ok (.iload_n 1, 1) := by decide +kernel
theorem dX4_tryPull_66 : decode cX4_tryPull 66 = .ok (.iload_n 2, 1) := by decide +kernel
theorem dX4_tryPull_67 : decode cX4_tryPull 67 = .ok (.aload_n 0, 1) := by decide +kernel
theorem dX4_tryPull_68 : decode cX4_tryPull 68 = .ok (.getfield 18, 3) := by decide +kernel
theorem dX4_tryPull_71 : decode cX4_tryPull 71 = .ok (.iload 4, 2) := by decide +kernel
theorem dX4_tryPull_73 : decode cX4_tryPull 73 = .ok (.iaload, 1) := by decide +kernel
theorem dX4_tryPull_74 : decode cX4_tryPull 74 = .ok (.invokevirtual 132, 3) := by decide +kernel
theorem dX4_tryPull_77 : decode cX4_tryPull 77 = .ok (.iinc 4 1, 3) := by decide +kernel
theorem dX4_tryPull_80 : decode cX4_tryPull 80 = .ok (.goto (-25), 3) := by decide +kernel
theorem dX4_tryPull_83 : decode cX4_tryPull 83 = .ok (.aload_n 0, 1) := by decide +kernel
theorem dX4_tryPull_84 : decode cX4_tryPull 84 = .ok (.getfield 26, 3) := by decide +kernel
theorem dX4_tryPull_87 : decode cX4_tryPull 87 = .ok (.dup, 1) := by decide +kernel
theorem dX4_tryPull_88 : decode cX4_tryPull 88 = .ok (.getfield 135, 3) := by decide +kernel
theorem dX4_tryPull_91 : decode cX4_tryPull 91 = .ok (.iconst 1, 1) := by decide +kernel
theorem dX4_tryPull_92 : decode cX4_tryPull 92 = .ok (.iadd, 1) := by decide +kernel
theorem dX4_tryPull_93 : decode cX4_tryPull 93 = .ok (.putfield 135, 3) := by decide +kernel
theorem dX4_tryPull_96 : decode cX4_tryPull 96 = .ok (.aload_n 0, 1) := by decide +kernel
theorem dX4_tryPull_97 : decode cX4_tryPull 97 = .ok (.getfield 26, 3) := by decide +kernel
theorem dX4_tryPull_100 : decode cX4_tryPull 100 = .ok (.dup, 1) := by decide +kernel
theorem dX4_tryPull_101 : decode cX4_tryPull 101 = .ok (.getfield 138, 3) := by decide +kernel
theorem dX4_tryPull_104 : decode cX4_tryPull 104 = .ok (.iload_n 3, 1) := by decide +kernel
theorem dX4_tryPull_105 : decode cX4_tryPull 105 = .ok (.iadd, 1) := by decide +kernel
theorem dX4_tryPull_106 : decode cX4_tryPull 106 = .ok (.putfield 138, 3) := by decide +kernel
theorem dX4_tryPull_109 : decode cX4_tryPull 109 = .ok (.aload_n 0, 1) := by decide +kernel
theorem dX4_tryPull_110 : decode cX4_tryPull 110 = .ok (.getfield 26, 3) := by decide +kernel
theorem dX4_tryPull_113 : decode cX4_tryPull 113 = .ok (.getfield 141, 3) := by decide +kernel
theorem dX4_tryPull_116 : decode cX4_tryPull 116 = .ok (.iload_n 1, 1) := by decide +kernel
theorem dX4_tryPull_117 : decode cX4_tryPull 117 = .ok (.dup2, 1) := by decide +kernel
theorem dX4_tryPull_118 : decode cX4_tryPull 118 = .ok (.iaload, 1) := by decide +kernel
theorem dX4_tryPull_119 : decode cX4_tryPull 119 = .ok (.iload_n 3, 1) := by decide +kernel
theorem dX4_tryPull_120 : decode cX4_tryPull 120 = .ok (.iadd, 1) := by decide +kernel
theorem dX4_tryPull_121 : decode cX4_tryPull 121 = .ok (.iastore, 1) := by decide +kernel
theorem dX4_tryPull_122 : decode cX4_tryPull 122 = .ok (.aload_n 0, 1) := by decide +kernel
theorem dX4_tryPull_123 : decode cX4_tryPull 123 = .ok (.getfield 12, 3) := by decide +kernel
theorem dX4_tryPull_126 : decode cX4_tryPull 126 = .ok (.iload_n 1, 1) := by decide +kernel
theorem dX4_tryPull_127 : decode cX4_tryPull 127 = .ok (.aaload, 1) := by decide +kernel
theorem dX4_tryPull_128 : decode cX4_tryPull 128 = .ok (.aload_n 0, 1) := by decide +kernel
theorem dX4_tryPull_129 : decode cX4_tryPull 129 = .ok (.getfield 22, 3) := by decide +kernel
theorem dX4_tryPull_132 : decode cX4_tryPull 132 = .ok (.aload_n 0, 1) := by decide +kernel
theorem dX4_tryPull_133 : decode cX4_tryPull 133 = .ok (.getfield 26, 3) := by decide +kernel
theorem dX4_tryPull_136 : decode cX4_tryPull 136 = .ok (.iload_n 1, 1) := by decide +kernel
theorem dX4_tryPull_137 : decode cX4_tryPull 137 = .ok (.invokevirtual 39, 3) := by decide +kernel
theorem dX4_tryPull_140 : decode cX4_tryPull 140 = .ok (.iconst 0, 1) := by decide +kernel
theorem dX4_tryPull_141 : decode cX4_tryPull 141 = .ok (.ireturn, 1) := by decide +kernel
theorem dX4_tryCut_0 : decode cX4_tryCut 0 = .ok (.aload_n 0, 1) := by decide +kernel
theorem dX4_tryCut_1 : decode cX4_tryCut 1 = .ok (.getfield 26, 3) := by decide +kernel
theorem dX4_tryCut_4 : decode cX4_tryCut 4 = .ok (.iload_n 1, 1) := by decide +kernel
theorem dX4_tryCut_5 : decode cX4_tryCut 5 = .ok (.iload_n 2, 1) := by decide +kernel
theorem dX4_tryCut_6 : decode cX4_tryCut 6 = .ok (.invokevirtual 120, 3) := by decide +kernel
theorem dX4_tryCut_9 : decode cX4_tryCut 9 = .ok (.ifCond .eq 5, 3) := by decide +kernel
theorem dX4_tryCut_12 : decode cX4_tryCut 12 = .ok (.iconst 1, 1) := by decide +kernel
theorem dX4_tryCut_13 : decode cX4_tryCut 13 = .ok (.ireturn, 1) := by decide +kernel
theorem dX4_tryCut_14 : decode cX4_tryCut 14 = .ok (.aload_n 0, 1) := by decide +kernel
theorem dX4_tryCut_15 : decode cX4_tryCut 15 = .ok (.getfield 26, 3) := by decide +kernel
theorem dX4_tryCut_18 : decode cX4_tryCut 18 = .ok (.iload_n 1, 1) := by decide +kernel
theorem dX4_tryCut_19 : decode cX4_tryCut 19 = .ok (.iload_n 2, 1) := by decide +kernel
theorem dX4_tryCut_20 : decode cX4_tryCut 20 = .ok (.invokevirtual 144, 3) := by decide +kernel
theorem dX4_tryCut_23 : decode cX4_tryCut 23 = .ok (.iconst 0, 1) := by decide +kernel
theorem dX4_tryCut_24 : decode cX4_tryCut 24 = .ok (.ireturn, 1) := by decide +kernel
theorem dX4_tryHeal_0 : decode cX4_tryHeal 0 = .ok (.aload_n 0, 1) := by decide +kernel
theorem dX4_tryHeal_1 : decode cX4_tryHeal 1 = .ok (.getfield 26, 3) := by decide +kernel
theorem dX4_tryHeal_4 : decode cX4_tryHeal 4 = .ok (.iload_n 1, 1) := by decide +kernel
theorem dX4_tryHeal_5 : decode cX4_tryHeal 5 = .ok (.iload_n 2, 1) := by decide +kernel
theorem dX4_tryHeal_6 : decode cX4_tryHeal 6 = .ok (.invokevirtual 120, 3) := by decide +kernel
theorem dX4_tryHeal_9 : decode cX4_tryHeal 9 = .ok (.ifCond .ne 5, 3) := by decide +kernel
theorem dX4_tryHeal_12 : decode cX4_tryHeal 12 = .ok (.iconst 1, 1) := by decide +kernel
theorem dX4_tryHeal_13 : decode cX4_tryHeal 13 = .ok (.ireturn, 1) := by decide +kernel
theorem dX4_tryHeal_14 : decode cX4_tryHeal 14 = .ok (.aload_n 0, 1) := by decide +kernel
theorem dX4_tryHeal_15 : decode cX4_tryHeal 15 = .ok (.getfield 26, 3) := by decide +kernel
theorem dX4_tryHeal_18 : decode cX4_tryHeal 18 = .ok (.iload_n 1, 1) := by decide +kernel
theorem dX4_tryHeal_19 : decode cX4_tryHeal 19 = .ok (.iload_n 2, 1) := by decide +kernel
theorem dX4_tryHeal_20 : decode cX4_tryHeal 20 = .ok (.invokevirtual 144, 3) := by decide +kernel
theorem dX4_tryHeal_23 : decode cX4_tryHeal 23 = .ok (.iconst 0, 1) := by decide +kernel
theorem dX4_tryHeal_24 : decode cX4_tryHeal 24 = .ok (.ireturn, 1) := by decide +kernel
theorem dX5_init_0 : decode cX5_init 0 = .ok (.aload_n 0, 1) := by decide +kernel
theorem dX5_init_1 : decode cX5_init 1 = .ok (.invokespecial 3, 3) := by decide +kernel
theorem dX5_init_4 : decode cX5_init 4 = .ok (.aload_n 0, 1) := by decide +kernel
theorem dX5_init_5 : decode cX5_init 5 = .ok (.iconst 2, 1) := by decide +kernel
theorem dX5_init_6 : decode cX5_init 6 = .ok (.putfield 9, 3) := by decide +kernel
theorem dX5_init_9 : decode cX5_init 9 = .ok (.aload_n 0, 1) := by decide +kernel
theorem dX5_init_10 : decode cX5_init 10 = .ok (.iconst 4, 1) := by decide +kernel
theorem dX5_init_11 : decode cX5_init 11 = .ok (.putfield 15, 3) := by decide +kernel
theorem dX5_init_14 : decode cX5_init 14 = .ok (.aload_n 0, 1) := by decide +kernel
theorem dX5_init_15 : decode cX5_init 15 = .ok (.iconst 0, 1) := by decide +kernel
theorem dX5_init_16 : decode cX5_init 16 = .ok (.putfield 18, 3) := by decide +kernel
theorem dX5_init_19 : decode cX5_init 19 = .ok (.aload_n 0, 1) := by decide +kernel
theorem dX5_init_20 : decode cX5_init 20 = .ok (.iconst 0, 1) := by decide +kernel
theorem dX5_init_21 : decode cX5_init 21 = .ok (.putfield 21, 3) := by decide +kernel
theorem dX5_init_24 : decode cX5_init 24 = .ok (.aload_n 0, 1) := by decide +kernel
theorem dX5_init_25 : decode cX5_init 25 = .ok (.iconst 0, 1) := by decide +kernel
theorem dX5_init_26 : decode cX5_init 26 = .ok (.putfield 24, 3) := by decide +kernel
theorem dX5_init_29 : decode cX5_init 29 = .ok (.aload_n 0, 1) := by decide +kernel
theorem dX5_init_30 : decode cX5_init 30 = .ok (.bipush 24, 2) := by decide +kernel
theorem dX5_init_32 : decode cX5_init 32 = .ok (.newarray .long, 2) := by decide +kernel
theorem dX5_init_34 : decode cX5_init 34 = .ok (.putfield 27, 3) := by decide +kernel
theorem dX5_init_37 : decode cX5_init 37 = .ok (.aload_n 0, 1) := by decide +kernel
theorem dX5_init_38 : decode cX5_init 38 = .ok (.iconst 4, 1) := by decide +kernel
theorem dX5_init_39 : decode cX5_init 39 = .ok (.newarray .long, 2) := by decide +kernel
theorem dX5_init_41 : decode cX5_init 41 = .ok (.putfield 31, 3) := by decide +kernel
theorem dX5_init_44 : decode cX5_init 44 = .ok (.aload_n 0, 1) := by decide +kernel
theorem dX5_init_45 : decode cX5_init 45 = .ok (.bipush 24, 2) := by decide +kernel
theorem dX5_init_47 : decode cX5_init 47 = .ok (.newarray .int, 2) := by decide +kernel
theorem dX5_init_49 : decode cX5_init 49 = .ok (.putfield 34, 3) := by decide +kernel
theorem dX5_init_52 : decode cX5_init 52 = .ok (.aload_n 0, 1) := by decide +kernel
theorem dX5_init_53 : decode cX5_init 53 = .ok (.bipush 24, 2) := by decide +kernel
theorem dX5_init_55 : decode cX5_init 55 = .ok (.newarray .int, 2) := by decide +kernel
theorem dX5_init_57 : decode cX5_init 57 = .ok (.putfield 38, 3) := by decide +kernel
theorem dX5_init_60 : decode cX5_init 60 = .ok (.aload_n 0, 1) := by decide +kernel
theorem dX5_init_61 : decode cX5_init 61 = .ok (.bipush 24, 2) := by decide +kernel
theorem dX5_init_63 : decode cX5_init 63 = .ok (.newarray .int, 2) := by decide +kernel
theorem dX5_init_65 : decode cX5_init 65 = .ok (.putfield 41, 3) := by decide +kernel
theorem dX5_init_68 : decode cX5_init 68 = .ok (.aload_n 0, 1) := by decide +kernel
theorem dX5_init_69 : decode cX5_init 69 = .ok (.bipush 24, 2) := by decide +kernel
theorem dX5_init_71 : decode cX5_init 71 = .ok (.newarray .int, 2) := by decide +kernel
theorem dX5_init_73 : decode cX5_init 73 = .ok (.putfield 44, 3) := by decide +kernel
theorem dX5_init_76 : decode cX5_init 76 = .ok (.return_, 1) := by decide +kernel
theorem dX5_clear_0 : decode cX5_clear 0 = .ok (.aload_n 0, 1) := by decide +kernel
theorem dX5_clear_1 : decode cX5_clear 1 = .ok (.iconst 2, 1) := by decide +kernel
theorem dX5_clear_2 : decode cX5_clear 2 = .ok (.putfield 9, 3) := by decide +kernel
theorem dX5_clear_5 : decode cX5_clear 5 = .ok (.aload_n 0, 1) := by decide +kernel
theorem dX5_clear_6 : decode cX5_clear 6 = .ok (.iconst 4, 1) := by decide +kernel
theorem dX5_clear_7 : decode cX5_clear 7 = .ok (.putfield 15, 3) := by decide +kernel
theorem dX5_clear_10 : decode cX5_clear 10 = .ok (.aload_n 0, 1) := by decide +kernel
theorem dX5_clear_11 : decode cX5_clear 11 = .ok (.iconst 0, 1) := by decide +kernel
theorem dX5_clear_12 : decode cX5_clear 12 = .ok (.putfield 18, 3) := by decide +kernel
theorem dX5_clear_15 : decode cX5_clear 15 = .ok (.aload_n 0, 1) := by decide +kernel
theorem dX5_clear_16 : decode cX5_clear 16 = .ok (.iconst 0, 1) := by decide +kernel
theorem dX5_clear_17 : decode cX5_clear 17 = .ok (.putfield 21, 3) := by decide +kernel
theorem dX5_clear_20 : decode cX5_clear 20 = .ok (.aload_n 0, 1) := by decide +kernel
theorem dX5_clear_21 : decode cX5_clear 21 = .ok (.iconst 0, 1) := by decide +kernel
theorem dX5_clear_22 : decode cX5_clear 22 = .ok (.putfield 24, 3) := by decide +kernel
theorem dX5_clear_25 : decode cX5_clear 25 = .ok (.return_, 1) := by decide +kernel
theorem dX5_copyFrom_0 : decode cX5_copyFrom 0 = .ok (.aload_n 0, 1) := by decide +kernel
theorem dX5_copyFrom_1 : decode cX5_copyFrom 1 = .ok (.aload_n 1, 1) := by decide +kernel
theorem dX5_copyFrom_2 : decode cX5_copyFrom 2 = .ok (.getfield 9, 3) := by decide +kernel
theorem dX5_copyFrom_5 : decode cX5_copyFrom 5 = .ok (.putfield 9, 3) := by decide +kernel
theorem dX5_copyFrom_8 : decode cX5_copyFrom 8 = .ok (.aload_n 0, 1) := by decide +kernel
theorem dX5_copyFrom_9 : decode cX5_copyFrom 9 = .ok (.aload_n 1, 1) := by decide +kernel
theorem dX5_copyFrom_10 : decode cX5_copyFrom 10 = .ok (.getfield 15, 3) := by decide +kernel
theorem dX5_copyFrom_13 : decode cX5_copyFrom 13 = .ok (.putfield 15, 3) := by decide +kernel
theorem dX5_copyFrom_16 : decode cX5_copyFrom 16 = .ok (.aload_n 0, 1) := by decide +kernel
theorem dX5_copyFrom_17 : decode cX5_copyFrom 17 = .ok (.aload_n 1, 1) := by decide +kernel
theorem dX5_copyFrom_18 : decode cX5_copyFrom 18 = .ok (.getfield 18, 3) := by decide +kernel
theorem dX5_copyFrom_21 : decode cX5_copyFrom 21 = .ok (.putfield 18, 3) := by decide +kernel
theorem dX5_copyFrom_24 : decode cX5_copyFrom 24 = .ok (.aload_n 0, 1) := by decide +kernel
theorem dX5_copyFrom_25 : decode cX5_copyFrom 25 = .ok (.aload_n 1, 1) := by decide +kernel
theorem dX5_copyFrom_26 : decode cX5_copyFrom 26 = .ok (.getfield 21, 3) := by decide +kernel
theorem dX5_copyFrom_29 : decode cX5_copyFrom 29 = .ok (.putfield 21, 3) := by decide +kernel
theorem dX5_copyFrom_32 : decode cX5_copyFrom 32 = .ok (.aload_n 0, 1) := by decide +kernel
theorem dX5_copyFrom_33 : decode cX5_copyFrom 33 = .ok (.aload_n 1, 1) := by decide +kernel
theorem dX5_copyFrom_34 : decode cX5_copyFrom 34 = .ok (.getfield 24, 3) := by decide +kernel
theorem dX5_copyFrom_37 : decode cX5_copyFrom 37 = .ok (.putfield 24, 3) := by decide +kernel
theorem dX5_copyFrom_40 : decode cX5_copyFrom 40 = .ok (.aload_n 1, 1) := by decide +kernel
theorem dX5_copyFrom_41 : decode cX5_copyFrom 41 = .ok (.getfield 27, 3) := by decide +kernel
theorem dX5_copyFrom_44 : decode cX5_copyFrom 44 = .ok (.iconst 0, 1) := by decide +kernel
theorem dX5_copyFrom_45 : decode cX5_copyFrom 45 = .ok (.aload_n 0, 1) := by decide +kernel
theorem dX5_copyFrom_46 : decode cX5_copyFrom 46 = .ok (.getfield 27, 3) := by decide +kernel
theorem dX5_copyFrom_49 : decode cX5_copyFrom 49 = .ok (.iconst 0, 1) := by decide +kernel
theorem dX5_copyFrom_50 : decode cX5_copyFrom 50 = .ok (.bipush 24, 2) := by decide +kernel
theorem dX5_copyFrom_52 : decode cX5_copyFrom 52 = .ok (.invokestatic 47, 3) := by decide +kernel
theorem dX5_copyFrom_55 : decode cX5_copyFrom 55 = .ok (.aload_n 1, 1) := by decide +kernel
theorem dX5_copyFrom_56 : decode cX5_copyFrom 56 = .ok (.getfield 31, 3) := by decide +kernel
theorem dX5_copyFrom_59 : decode cX5_copyFrom 59 = .ok (.iconst 0, 1) := by decide +kernel
theorem dX5_copyFrom_60 : decode cX5_copyFrom 60 = .ok (.aload_n 0, 1) := by decide +kernel
theorem dX5_copyFrom_61 : decode cX5_copyFrom 61 = .ok (.getfield 31, 3) := by decide +kernel
theorem dX5_copyFrom_64 : decode cX5_copyFrom 64 = .ok (.iconst 0, 1) := by decide +kernel
theorem dX5_copyFrom_65 : decode cX5_copyFrom 65 = .ok (.iconst 4, 1) := by decide +kernel
theorem dX5_copyFrom_66 : decode cX5_copyFrom 66 = .ok (.invokestatic 47, 3) := by decide +kernel
theorem dX5_copyFrom_69 : decode cX5_copyFrom 69 = .ok (.aload_n 1, 1) := by decide +kernel
theorem dX5_copyFrom_70 : decode cX5_copyFrom 70 = .ok (.getfield 34, 3) := by decide +kernel
theorem dX5_copyFrom_73 : decode cX5_copyFrom 73 = .ok (.iconst 0, 1) := by decide +kernel
theorem dX5_copyFrom_74 : decode cX5_copyFrom 74 = .ok (.aload_n 0, 1) := by decide +kernel
theorem dX5_copyFrom_75 : decode cX5_copyFrom 75 = .ok (.getfield 34, 3) := by decide +kernel
theorem dX5_copyFrom_78 : decode cX5_copyFrom 78 = .ok (.iconst 0, 1) := by decide +kernel
theorem dX5_copyFrom_79 : decode cX5_copyFrom 79 = .ok (.bipush 24, 2) := by decide +kernel
theorem dX5_copyFrom_81 : decode cX5_copyFrom 81 = .ok (.invokestatic 47, 3) := by decide +kernel
theorem dX5_copyFrom_84 : decode cX5_copyFrom 84 = .ok (.aload_n 1, 1) := by decide +kernel
theorem dX5_copyFrom_85 : decode cX5_copyFrom 85 = .ok (.getfield 38, 3) := by decide +kernel
theorem dX5_copyFrom_88 : decode cX5_copyFrom 88 = .ok (.iconst 0, 1) := by decide +kernel
theorem dX5_copyFrom_89 : decode cX5_copyFrom 89 = .ok (.aload_n 0, 1) := by decide +kernel
theorem dX5_copyFrom_90 : decode cX5_copyFrom 90 = .ok (.getfield 38, 3) := by decide +kernel
theorem dX5_copyFrom_93 : decode cX5_copyFrom 93 = .ok (.iconst 0, 1) := by decide +kernel
theorem dX5_copyFrom_94 : decode cX5_copyFrom 94 = .ok (.bipush 24, 2) := by decide +kernel
theorem dX5_copyFrom_96 : decode cX5_copyFrom 96 = .ok (.invokestatic 47, 3) := by decide +kernel
theorem dX5_copyFrom_99 : decode cX5_copyFrom 99 = .ok (.aload_n 1, 1) := by decide +kernel
theorem dX5_copyFrom_100 : decode cX5_copyFrom 100 = .ok (.getfield 41, 3) := by decide +kernel
theorem dX5_copyFrom_103 : decode cX5_copyFrom 103 = .ok (.iconst 0, 1) := by decide +kernel
theorem dX5_copyFrom_104 : decode cX5_copyFrom 104 = .ok (.aload_n 0, 1) := by decide +kernel
theorem dX5_copyFrom_105 : decode cX5_copyFrom 105 = .ok (.getfield 41, 3) := by decide +kernel
theorem dX5_copyFrom_108 : decode cX5_copyFrom 108 = .ok (.iconst 0, 1) := by decide +kernel
theorem dX5_copyFrom_109 : decode cX5_copyFrom 109 = .ok (.bipush 24, 2) := by decide +kernel
theorem dX5_copyFrom_111 : decode cX5_copyFrom 111 = .ok (.invokestatic 47, 3) := by decide +kernel
theorem dX5_copyFrom_114 : decode cX5_copyFrom 114 = .ok (.aload_n 1, 1) := by decide +kernel
theorem dX5_copyFrom_115 : decode cX5_copyFrom 115 = .ok (.getfield 44, 3) := by decide +kernel
theorem dX5_copyFrom_118 : decode cX5_copyFrom 118 = .ok (.iconst 0, 1) := by decide +kernel
theorem dX5_copyFrom_119 : decode cX5_copyFrom 119 = .ok (.aload_n 0, 1) := by decide +kernel
theorem dX5_copyFrom_120 : decode cX5_copyFrom 120 = .ok (.getfield 44, 3) := by decide +kernel
theorem dX5_copyFrom_123 : decode cX5_copyFrom 123 = .ok (.iconst 0, 1) := by decide +kernel
theorem dX5_copyFrom_124 : decode cX5_copyFrom 124 = .ok (.bipush 24, 2) := by decide +kernel
theorem dX5_copyFrom_126 : decode cX5_copyFrom 126 = .ok (.invokestatic 47, 3) := by decide +kernel
theorem dX5_copyFrom_129 : decode cX5_copyFrom 129 = .ok (.return_, 1) := by decide +kernel
theorem dX5_hasBoth_0 : decode cX5_hasBoth 0 = .ok (.aload_n 0, 1) := by decide +kernel
theorem dX5_hasBoth_1 : decode cX5_hasBoth 1 = .ok (.getfield 21, 3) := by decide +kernel
theorem dX5_hasBoth_4 : decode cX5_hasBoth 4 = .ok (.ifCond .le 14, 3) := by decide +kernel
theorem dX5_hasBoth_7 : decode cX5_hasBoth 7 = .ok (.aload_n 0, 1) := by decide +kernel
theorem dX5_hasBoth_8 : decode cX5_hasBoth 8 = .ok (.getfield 24, 3) := by decide +kernel
theorem dX5_hasBoth_11 : decode cX5_hasBoth 11 = .ok (.ifCond .le 7, 3) := by decide +kernel
theorem dX5_hasBoth_14 : decode cX5_hasBoth 14 = .ok (.iconst 1, 1) := by decide +kernel
theorem dX5_hasBoth_15 : decode cX5_hasBoth 15 = .ok (.goto 4, 3) := by decide +kernel
theorem dX5_hasBoth_18 : decode cX5_hasBoth 18 = .ok (.iconst 0, 1) := by decide +kernel
theorem dX5_hasBoth_19 : decode cX5_hasBoth 19 = .ok (.ireturn, 1) := by decide +kernel
theorem dX5_signOf_0 : decode cX5_signOf 0 = .ok (.lload_n 0, 1) := by decide +kernel
theorem dX5_signOf_1 : decode cX5_signOf 1 = .ok (.bipush 8, 2) := by decide +kernel
theorem dX5_signOf_3 : decode cX5_signOf 3 = .ok (.bipush 6, 2) := by decide +kernel
theorem dX5_signOf_5 : decode cX5_signOf 5 = .ok (.iload_n 2, 1) := by decide +kernel
theorem dX5_signOf_6 : decode cX5_signOf 6 = .ok (.isub, 1) := by decide +kernel
theorem dX5_signOf_7 : decode cX5_signOf 7 = .ok (.imul, 1) := by decide +kernel
theorem dX5_signOf_8 : decode cX5_signOf 8 = .ok (.lushr, 1) := by decide +kernel
theorem dX5_signOf_9 : decode cX5_signOf 9 = .ok (.l2i, 1) := by decide +kernel
theorem dX5_signOf_10 : decode cX5_signOf 10 = .ok (.sipush 255, 3) := by decide +kernel
theorem dX5_signOf_13 : decode cX5_signOf 13 = .ok (.iand, 1) := by decide +kernel
theorem dX5_signOf_14 : decode cX5_signOf 14 = .ok (.ireturn, 1) := by decide +kernel
theorem dX5_keyNamed_0 : decode cX5_keyNamed 0 = .ok (.aload_n 0, 1) := by decide +kernel
theorem dX5_keyNamed_1 : decode cX5_keyNamed 1 = .ok (.getfield 27, 3) := by decide +kernel
theorem dX5_keyNamed_4 : decode cX5_keyNamed 4 = .ok (.aload_n 0, 1) := by decide +kernel
theorem dX5_keyNamed_5 : decode cX5_keyNamed 5 = .ok (.getfield 21, 3) := by decide +kernel
theorem dX5_keyNamed_8 : decode cX5_keyNamed 8 = .ok (.lload_n 1, 1) := by decide +kernel
theorem dX5_keyNamed_9 : decode cX5_keyNamed 9 = .ok (.invokestatic 53, 3) := by decide +kernel
theorem dX5_keyNamed_12 : decode cX5_keyNamed 12 = .ok (.ireturn, 1) := by decide +kernel
theorem dX5_peerNamed_0 : decode cX5_peerNamed 0 = .ok (.aload_n 0, 1) := by decide +kernel
theorem dX5_peerNamed_1 : decode cX5_peerNamed 1 = .ok (.getfield 31, 3) := by decide +kernel
theorem dX5_peerNamed_4 : decode cX5_peerNamed 4 = .ok (.aload_n 0, 1) := by decide +kernel
theorem dX5_peerNamed_5 : decode cX5_peerNamed 5 = .ok (.getfield 24, 3) := by decide +kernel
theorem dX5_peerNamed_8 : decode cX5_peerNamed 8 = .ok (.lload_n 1, 1) := by decide +kernel
theorem dX5_peerNamed_9 : decode cX5_peerNamed 9 = .ok (.invokestatic 53, 3) := by decide +kernel
theorem dX5_peerNamed_12 : decode cX5_peerNamed 12 = .ok (.ireturn, 1) := by decide +kernel
theorem dX5_indexOf_0 : decode cX5_indexOf 0 = .ok (.iconst 0, 1) := by decide +kernel
theorem dX5_indexOf_1 : decode cX5_indexOf 1 = .ok (.istore 4, 2) := by decide +kernel
theorem dX5_indexOf_3 : decode cX5_indexOf 3 = .ok (.iload 4, 2) := by decide +kernel
theorem dX5_indexOf_5 : decode cX5_indexOf 5 = .ok (.iload_n 1, 1) := by decide +kernel
theorem dX5_indexOf_6 : decode cX5_indexOf 6 = .ok (.if_icmp .ge 28, 3) := by decide +kernel
theorem dX5_indexOf_9 : decode cX5_indexOf 9 = .ok (.iload 4, 2) := by decide +kernel
theorem dX5_indexOf_11 : decode cX5_indexOf 11 = .ok (.aload_n 0, 1) := by decide +kernel
theorem dX5_indexOf_12 : decode cX5_indexOf 12 = .ok (.arraylength, 1) := by decide +kernel
theorem dX5_indexOf_13 : decode cX5_indexOf 13 = .ok (.if_icmp .ge 21, 3) := by decide +kernel
theorem dX5_indexOf_16 : decode cX5_indexOf 16 = .ok (.aload_n 0, 1) := by decide +kernel
theorem dX5_indexOf_17 : decode cX5_indexOf 17 = .ok (.iload 4, 2) := by decide +kernel
theorem dX5_indexOf_19 : decode cX5_indexOf 19 = .ok (.laload, 1) := by decide +kernel
theorem dX5_indexOf_20 : decode cX5_indexOf 20 = .ok (.lload_n 2, 1) := by decide +kernel
theorem dX5_indexOf_21 : decode cX5_indexOf 21 = .ok (.lcmp, 1) := by decide +kernel
theorem dX5_indexOf_22 : decode cX5_indexOf 22 = .ok (.ifCond .ne 6, 3) := by decide +kernel
theorem dX5_indexOf_25 : decode cX5_indexOf 25 = .ok (.iload 4, 2) := by decide +kernel
theorem dX5_indexOf_27 : decode cX5_indexOf 27 = .ok (.ireturn, 1) := by decide +kernel
theorem dX5_indexOf_28 : decode cX5_indexOf 28 = .ok (.iinc 4 1, 3) := by decide +kernel
theorem dX5_indexOf_31 : decode cX5_indexOf 31 = .ok (.goto (-28), 3) := by decide +kernel
theorem dX5_indexOf_34 : decode cX5_indexOf 34 = .ok (.iconst (-1), 1) := by decide +kernel
theorem dX5_indexOf_35 : decode cX5_indexOf 35 = .ok (.ireturn, 1) := by decide +kernel
theorem dX5_isTold_0 : decode cX5_isTold 0 = .ok (.aload_n 0, 1) := by decide +kernel
theorem dX5_isTold_1 : decode cX5_isTold 1 = .ok (.getfield 27, 3) := by decide +kernel
theorem dX5_isTold_4 : decode cX5_isTold 4 = .ok (.aload_n 0, 1) := by decide +kernel
theorem dX5_isTold_5 : decode cX5_isTold 5 = .ok (.getfield 21, 3) := by decide +kernel
theorem dX5_isTold_8 : decode cX5_isTold 8 = .ok (.lload_n 1, 1) := by decide +kernel
theorem dX5_isTold_9 : decode cX5_isTold 9 = .ok (.invokestatic 53, 3) := by decide +kernel
theorem dX5_isTold_12 : decode cX5_isTold 12 = .ok (.iconst (-1), 1) := by decide +kernel
theorem dX5_isTold_13 : decode cX5_isTold 13 = .ok (.if_icmp .ne 19, 3) := by decide +kernel
theorem dX5_isTold_16 : decode cX5_isTold 16 = .ok (.aload_n 0, 1) := by decide +kernel
theorem dX5_isTold_17 : decode cX5_isTold 17 = .ok (.getfield 31, 3) := by decide +kernel
theorem dX5_isTold_20 : decode cX5_isTold 20 = .ok (.aload_n 0, 1) := by decide +kernel
theorem dX5_isTold_21 : decode cX5_isTold 21 = .ok (.getfield 24, 3) := by decide +kernel
theorem dX5_isTold_24 : decode cX5_isTold 24 = .ok (.lload_n 1, 1) := by decide +kernel
theorem dX5_isTold_25 : decode cX5_isTold 25 = .ok (.invokestatic 53, 3) := by decide +kernel
theorem dX5_isTold_28 : decode cX5_isTold 28 = .ok (.iconst (-1), 1) := by decide +kernel
theorem dX5_isTold_29 : decode cX5_isTold 29 = .ok (.if_icmp .eq 7, 3) := by decide +kernel
theorem dX5_isTold_32 : decode cX5_isTold 32 = .ok (.iconst 1, 1) := by decide +kernel
theorem dX5_isTold_33 : decode cX5_isTold 33 = .ok (.goto 4, 3) := by decide +kernel
theorem dX5_isTold_36 : decode cX5_isTold 36 = .ok (.iconst 0, 1) := by decide +kernel
theorem dX5_isTold_37 : decode cX5_isTold 37 = .ok (.ireturn, 1) := by decide +kernel
theorem dX5_settle_0 : decode cX5_settle 0 = .ok (.iconst 0, 1) := by decide +kernel
theorem dX5_settle_1 : decode cX5_settle 1 = .ok (.istore_n 1, 1) := by decide +kernel
theorem dX5_settle_2 : decode cX5_settle 2 = .ok (.iload_n 1, 1) := by decide +kernel
theorem dX5_settle_3 : decode cX5_settle 3 = .ok (.aload_n 0, 1) := by decide +kernel
theorem dX5_settle_4 : decode cX5_settle 4 = .ok (.getfield 21, 3) := by decide +kernel
theorem dX5_settle_7 : decode cX5_settle 7 = .ok (.if_icmp .ge 40, 3) := by decide +kernel
theorem dX5_settle_10 : decode cX5_settle 10 = .ok (.aload_n 0, 1) := by decide +kernel
theorem dX5_settle_11 : decode cX5_settle 11 = .ok (.getfield 34, 3) := by decide +kernel
theorem dX5_settle_14 : decode cX5_settle 14 = .ok (.iload_n 1, 1) := by decide +kernel
theorem dX5_settle_15 : decode cX5_settle 15 = .ok (.aload_n 0, 1) := by decide +kernel
theorem dX5_settle_16 : decode cX5_settle 16 = .ok (.getfield 27, 3) := by decide +kernel
theorem dX5_settle_19 : decode cX5_settle 19 = .ok (.iload_n 1, 1) := by decide +kernel
theorem dX5_settle_20 : decode cX5_settle 20 = .ok (.laload, 1) := by decide +kernel
theorem dX5_settle_21 : decode cX5_settle 21 = .ok (.invokestatic 57, 3) := by decide +kernel
theorem dX5_settle_24 : decode cX5_settle 24 = .ok (.iastore, 1) := by decide +kernel
theorem dX5_settle_25 : decode cX5_settle 25 = .ok (.aload_n 0, 1) := by decide +kernel
theorem dX5_settle_26 : decode cX5_settle 26 = .ok (.getfield 38, 3) := by decide +kernel
theorem dX5_settle_29 : decode cX5_settle 29 = .ok (.iload_n 1, 1) := by decide +kernel
theorem dX5_settle_30 : decode cX5_settle 30 = .ok (.aload_n 0, 1) := by decide +kernel
theorem dX5_settle_31 : decode cX5_settle 31 = .ok (.aload_n 0, 1) := by decide +kernel
theorem dX5_settle_32 : decode cX5_settle 32 = .ok (.getfield 34, 3) := by decide +kernel
theorem dX5_settle_35 : decode cX5_settle 35 = .ok (.iload_n 1, 1) := by decide +kernel
theorem dX5_settle_36 : decode cX5_settle 36 = .ok (.iaload, 1) := by decide +kernel
theorem dX5_settle_37 : decode cX5_settle 37 = .ok (.invokevirtual 61, 3) := by decide +kernel
theorem dX5_settle_40 : decode cX5_settle 40 = .ok (.iastore, 1) := by decide +kernel
theorem dX5_settle_41 : decode cX5_settle 41 = .ok (.iinc 1 1, 3) := by decide +kernel
theorem dX5_settle_44 : decode cX5_settle 44 = .ok (.goto (-42), 3) := by decide +kernel
theorem dX5_settle_47 : decode cX5_settle 47 = .ok (.iconst 0, 1) := by decide +kernel
theorem dX5_settle_48 : decode cX5_settle 48 = .ok (.istore_n 1, 1) := by decide +kernel
theorem dX5_settle_49 : decode cX5_settle 49 = .ok (.iload_n 1, 1) := by decide +kernel
theorem dX5_settle_50 : decode cX5_settle 50 = .ok (.aload_n 0, 1) := by decide +kernel
theorem dX5_settle_51 : decode cX5_settle 51 = .ok (.getfield 21, 3) := by decide +kernel
theorem dX5_settle_54 : decode cX5_settle 54 = .ok (.if_icmp .ge 60, 3) := by decide +kernel
theorem dX5_settle_57 : decode cX5_settle 57 = .ok (.iconst 0, 1) := by decide +kernel
theorem dX5_settle_58 : decode cX5_settle 58 = .ok (.istore_n 2, 1) := by decide +kernel
theorem dX5_settle_59 : decode cX5_settle 59 = .ok (.iconst 0, 1) := by decide +kernel
theorem dX5_settle_60 : decode cX5_settle 60 = .ok (.istore_n 3, 1) := by decide +kernel
theorem dX5_settle_61 : decode cX5_settle 61 = .ok (.iload_n 3, 1) := by decide +kernel
theorem dX5_settle_62 : decode cX5_settle 62 = .ok (.aload_n 0, 1) := by decide +kernel
theorem dX5_settle_63 : decode cX5_settle 63 = .ok (.getfield 21, 3) := by decide +kernel
theorem dX5_settle_66 : decode cX5_settle 66 = .ok (.if_icmp .ge 28, 3) := by decide +kernel
theorem dX5_settle_69 : decode cX5_settle 69 = .ok (.aload_n 0, 1) := by decide +kernel
theorem dX5_settle_70 : decode cX5_settle 70 = .ok (.getfield 27, 3) := by decide +kernel
theorem dX5_settle_73 : decode cX5_settle 73 = .ok (.iload_n 3, 1) := by decide +kernel
theorem dX5_settle_74 : decode cX5_settle 74 = .ok (.laload, 1) := by decide +kernel
theorem dX5_settle_75 : decode cX5_settle 75 = .ok (.aload_n 0, 1) := by decide +kernel
theorem dX5_settle_76 : decode cX5_settle 76 = .ok (.getfield 27, 3) := by decide +kernel
theorem dX5_settle_79 : decode cX5_settle 79 = .ok (.iload_n 1, 1) := by decide +kernel
theorem dX5_settle_80 : decode cX5_settle 80 = .ok (.laload, 1) := by decide +kernel
theorem dX5_settle_81 : decode cX5_settle 81 = .ok (.lcmp, 1) := by decide +kernel
theorem dX5_settle_82 : decode cX5_settle 82 = .ok (.ifCond .ge 6, 3) := by decide +kernel
theorem dX5_settle_85 : decode cX5_settle 85 = .ok (.iinc 2 1, 3) := by decide +kernel
theorem dX5_settle_88 : decode cX5_settle 88 = .ok (.iinc 3 1, 3) := by decide +kernel
theorem dX5_settle_91 : decode cX5_settle 91 = .ok (.goto (-30), 3) := by decide +kernel
theorem dX5_settle_94 : decode cX5_settle 94 = .ok (.aload_n 0, 1) := by decide +kernel
theorem dX5_settle_95 : decode cX5_settle 95 = .ok (.getfield 44, 3) := by decide +kernel
theorem dX5_settle_98 : decode cX5_settle 98 = .ok (.iload_n 1, 1) := by decide +kernel
theorem dX5_settle_99 : decode cX5_settle 99 = .ok (.iload_n 2, 1) := by decide +kernel
theorem dX5_settle_100 : decode cX5_settle 100 = .ok (.iastore, 1) := by decide +kernel
theorem dX5_settle_101 : decode cX5_settle 101 = .ok (.aload_n 0, 1) := by decide +kernel
theorem dX5_settle_102 : decode cX5_settle 102 = .ok (.getfield 41, 3) := by decide +kernel
theorem dX5_settle_105 : decode cX5_settle 105 = .ok (.iload_n 2, 1) := by decide +kernel
theorem dX5_settle_106 : decode cX5_settle 106 = .ok (.iload_n 1, 1) := by decide +kernel
theorem dX5_settle_107 : decode cX5_settle 107 = .ok (.iastore, 1) := by decide +kernel
theorem dX5_settle_108 : decode cX5_settle 108 = .ok (.iinc 1 1, 3) := by decide +kernel
theorem dX5_settle_111 : decode cX5_settle 111 = .ok (.goto (-62), 3) := by decide +kernel
theorem dX5_settle_114 : decode cX5_settle 114 = .ok (.return_, 1) := by decide +kernel
theorem dX5_digestOf_0 : decode cX5_digestOf 0 = .ok (.ldc 65, 2) := by decide +kernel
theorem dX5_digestOf_2 : decode cX5_digestOf 2 = .ok (.istore_n 2, 1) := by decide +kernel
theorem dX5_digestOf_3 : decode cX5_digestOf 3 = .ok (.iconst 0, 1) := by decide +kernel
theorem dX5_digestOf_4 : decode cX5_digestOf 4 = .ok (.istore_n 3, 1) := by decide +kernel
theorem dX5_digestOf_5 : decode cX5_digestOf 5 = .ok (.iload_n 3, 1) := by decide +kernel
theorem dX5_digestOf_6 : decode cX5_digestOf 6 = .ok (.bipush 7, 2) := by decide +kernel
theorem dX5_digestOf_8 : decode cX5_digestOf 8 = .ok (.if_icmp .ge 28, 3) := by decide +kernel
theorem dX5_digestOf_11 : decode cX5_digestOf 11 = .ok (.lload_n 0, 1) := by decide +kernel
theorem dX5_digestOf_12 : decode cX5_digestOf 12 = .ok (.iload_n 3, 1) := by decide +kernel
theorem dX5_digestOf_13 : decode cX5_digestOf 13 = .ok (.invokestatic 66, 3) := by decide +kernel
theorem dX5_digestOf_16 : decode cX5_digestOf 16 = .ok (.istore 4, 2) := by decide +kernel
theorem dX5_digestOf_18 : decode cX5_digestOf 18 = .ok (.iload 4, 2) := by decide +kernel
theorem dX5_digestOf_20 : decode cX5_digestOf 20 = .ok (.ifCond .eq 10, 3) := by decide +kernel
theorem dX5_digestOf_23 : decode cX5_digestOf 23 = .ok (.iload_n 2, 1) := by decide +kernel
theorem dX5_digestOf_24 : decode cX5_digestOf 24 = .ok (.iload 4, 2) := by decide +kernel
theorem dX5_digestOf_26 : decode cX5_digestOf 26 = .ok (.invokestatic 70, 3) := by decide +kernel
theorem dX5_digestOf_29 : decode cX5_digestOf 29 = .ok (.istore_n 2, 1) := by decide +kernel
theorem dX5_digestOf_30 : decode cX5_digestOf 30 = .ok (.iinc 3 1, 3) := by decide +kernel
theorem dX5_digestOf_33 : decode cX5_digestOf 33 = .ok (.goto (-28), 3) := by decide +kernel
theorem dX5_digestOf_36 : decode cX5_digestOf 36 = .ok (.iload_n 2, 1) := by decide +kernel
theorem dX5_digestOf_37 : decode cX5_digestOf 37 = .ok (.ireturn, 1) := by decide +kernel
theorem dX5_levelOf_0 : decode cX5_levelOf 0 = .ok (.iconst 0, 1) := by decide +kernel
theorem dX5_levelOf_1 : decode cX5_levelOf 1 = .ok (.istore_n 2, 1) := by decide +kernel
theorem dX5_levelOf_2 : decode cX5_levelOf 2 = .ok (.iload_n 2, 1) := by decide +kernel
theorem dX5_levelOf_3 : decode cX5_levelOf 3 = .ok (.bipush 32, 2) := by decide +kernel
theorem dX5_levelOf_5 : decode cX5_levelOf 5 = .ok (.if_icmp .ge 17, 3) := by decide +kernel
theorem dX5_levelOf_8 : decode cX5_levelOf 8 = .ok (.iload_n 1, 1) := by decide +kernel
theorem dX5_levelOf_9 : decode cX5_levelOf 9 = .ok (.iload_n 2, 1) := by decide +kernel
theorem dX5_levelOf_10 : decode cX5_levelOf 10 = .ok (.iushr, 1) := by decide +kernel
theorem dX5_levelOf_11 : decode cX5_levelOf 11 = .ok (.iconst 1, 1) := by decide +kernel
theorem dX5_levelOf_12 : decode cX5_levelOf 12 = .ok (.iand, 1) := by decide +kernel
theorem dX5_levelOf_13 : decode cX5_levelOf 13 = .ok (.ifCond .ne 9, 3) := by decide +kernel
theorem dX5_levelOf_16 : decode cX5_levelOf 16 = .ok (.iinc 2 1, 3) := by decide +kernel
theorem dX5_levelOf_19 : decode cX5_levelOf 19 = .ok (.goto (-17), 3) := by decide +kernel
theorem dX5_levelOf_22 : decode cX5_levelOf 22 = .ok (.aload_n 0, 1) := by decide +kernel
theorem dX5_levelOf_23 : decode cX5_levelOf 23 = .ok (.getfield 9, 3) := by decide +kernel
theorem dX5_levelOf_26 : decode cX5_levelOf 26 = .ok (.iconst 1, 1) := by decide +kernel
theorem dX5_levelOf_27 : decode cX5_levelOf 27 = .ok (.if_icmp .ge 7, 3) := by decide +kernel
theorem dX5_levelOf_30 : decode cX5_levelOf 30 = .ok (.iconst 0, 1) := by decide +kernel
theorem dX5_levelOf_31 : decode cX5_levelOf 31 = .ok (.goto 9, 3) := by decide +kernel
theorem dX5_levelOf_34 : decode cX5_levelOf 34 = .ok (.iload_n 2, 1) := by decide +kernel
theorem dX5_levelOf_35 : decode cX5_levelOf 35 = .ok (.aload_n 0, 1) := by decide +kernel
theorem dX5_levelOf_36 : decode cX5_levelOf 36 = .ok (.getfield 9, 3) := by decide +kernel
theorem dX5_levelOf_39 : decode cX5_levelOf 39 = .ok (.idiv, 1) := by decide +kernel
theorem dX5_levelOf_40 : decode cX5_levelOf 40 = .ok (.ireturn, 1) := by decide +kernel
theorem dX6_init_0 : decode cX6_init 0 = .ok (.aload_n 0, 1) := by decide +kernel
theorem dX6_init_1 : decode cX6_init 1 = .ok (.invokespecial 3, 3) := by decide +kernel
theorem dX6_init_4 : decode cX6_init 4 = .ok (.aload_n 0, 1) := by decide +kernel
theorem dX6_init_5 : decode cX6_init 5 = .ok (.iconst 0, 1) := by decide +kernel
theorem dX6_init_6 : decode cX6_init 6 = .ok (.putfield 9, 3) := by decide +kernel
theorem dX6_init_9 : decode cX6_init 9 = .ok (.aload_n 0, 1) := by decide +kernel
theorem dX6_init_10 : decode cX6_init 10 = .ok (.iconst 0, 1) := by decide +kernel
theorem dX6_init_11 : decode cX6_init 11 = .ok (.putfield 15, 3) := by decide +kernel
theorem dX6_init_14 : decode cX6_init 14 = .ok (.aload_n 0, 1) := by decide +kernel
theorem dX6_init_15 : decode cX6_init 15 = .ok (.iconst 0, 1) := by decide +kernel
theorem dX6_init_16 : decode cX6_init 16 = .ok (.putfield 18, 3) := by decide +kernel
theorem dX6_init_19 : decode cX6_init 19 = .ok (.aload_n 0, 1) := by decide +kernel
theorem dX6_init_20 : decode cX6_init 20 = .ok (.iconst 0, 1) := by decide +kernel
theorem dX6_init_21 : decode cX6_init 21 = .ok (.putfield 21, 3) := by decide +kernel
theorem dX6_init_24 : decode cX6_init 24 = .ok (.aload_n 0, 1) := by decide +kernel
theorem dX6_init_25 : decode cX6_init 25 = .ok (.iconst 0, 1) := by decide +kernel
theorem dX6_init_26 : decode cX6_init 26 = .ok (.putfield 24, 3) := by decide +kernel
theorem dX6_init_29 : decode cX6_init 29 = .ok (.aload_n 0, 1) := by decide +kernel
theorem dX6_init_30 : decode cX6_init 30 = .ok (.iconst (-1), 1) := by decide +kernel
theorem dX6_init_31 : decode cX6_init 31 = .ok (.putfield 27, 3) := by decide +kernel
theorem dX6_init_34 : decode cX6_init 34 = .ok (.aload_n 0, 1) := by decide +kernel
theorem dX6_init_35 : decode cX6_init 35 = .ok (.lconst 0, 1) := by decide +kernel
theorem dX6_init_36 : decode cX6_init 36 = .ok (.putfield 30, 3) := by decide +kernel
theorem dX6_init_39 : decode cX6_init 39 = .ok (.aload_n 0, 1) := by decide +kernel
theorem dX6_init_40 : decode cX6_init 40 = .ok (.iconst 0, 1) := by decide +kernel
theorem dX6_init_41 : decode cX6_init 41 = .ok (.putfield 34, 3) := by decide +kernel
theorem dX6_init_44 : decode cX6_init 44 = .ok (.aload_n 0, 1) := by decide +kernel
theorem dX6_init_45 : decode cX6_init 45 = .ok (.iconst 0, 1) := by decide +kernel
theorem dX6_init_46 : decode cX6_init 46 = .ok (.putfield 37, 3) := by decide +kernel
theorem dX6_init_49 : decode cX6_init 49 = .ok (.aload_n 0, 1) := by decide +kernel
theorem dX6_init_50 : decode cX6_init 50 = .ok (.iconst 0, 1) := by decide +kernel
theorem dX6_init_51 : decode cX6_init 51 = .ok (.putfield 40, 3) := by decide +kernel
theorem dX6_init_54 : decode cX6_init 54 = .ok (.aload_n 0, 1) := by decide +kernel
theorem dX6_init_55 : decode cX6_init 55 = .ok (.iconst 0, 1) := by decide +kernel
theorem dX6_init_56 : decode cX6_init 56 = .ok (.putfield 43, 3) := by decide +kernel
theorem dX6_init_59 : decode cX6_init 59 = .ok (.aload_n 0, 1) := by decide +kernel
theorem dX6_init_60 : decode cX6_init 60 = .ok (.iconst 0, 1) := by decide +kernel
theorem dX6_init_61 : decode cX6_init 61 = .ok (.putfield 46, 3) := by decide +kernel
theorem dX6_init_64 : decode cX6_init 64 = .ok (.aload_n 0, 1) := by decide +kernel
theorem dX6_init_65 : decode cX6_init 65 = .ok (.aload_n 1, 1) := by decide +kernel
theorem dX6_init_66 : decode cX6_init 66 = .ok (.putfield 49, 3) := by decide +kernel
theorem dX6_init_69 : decode cX6_init 69 = .ok (.return_, 1) := by decide +kernel
theorem dX6_open_0 : decode cX6_open 0 = .ok (.aload_n 0, 1) := by decide +kernel
theorem dX6_open_1 : decode cX6_open 1 = .ok (.iload_n 1, 1) := by decide +kernel
theorem dX6_open_2 : decode cX6_open 2 = .ok (.putfield 9, 3) := by decide +kernel
theorem dX6_open_5 : decode cX6_open 5 = .ok (.aload_n 0, 1) := by decide +kernel
theorem dX6_open_6 : decode cX6_open 6 = .ok (.iload_n 2, 1) := by decide +kernel
theorem dX6_open_7 : decode cX6_open 7 = .ok (.putfield 15, 3) := by decide +kernel
theorem dX6_open_10 : decode cX6_open 10 = .ok (.aload_n 0, 1) := by decide +kernel
theorem dX6_open_11 : decode cX6_open 11 = .ok (.iconst 0, 1) := by decide +kernel
theorem dX6_open_12 : decode cX6_open 12 = .ok (.putfield 18, 3) := by decide +kernel
theorem dX6_open_15 : decode cX6_open 15 = .ok (.aload_n 0, 1) := by decide +kernel
theorem dX6_open_16 : decode cX6_open 16 = .ok (.iconst 0, 1) := by decide +kernel
theorem dX6_open_17 : decode cX6_open 17 = .ok (.putfield 40, 3) := by decide +kernel
theorem dX6_open_20 : decode cX6_open 20 = .ok (.aload_n 0, 1) := by decide +kernel
theorem dX6_open_21 : decode cX6_open 21 = .ok (.iconst 0, 1) := by decide +kernel
theorem dX6_open_22 : decode cX6_open 22 = .ok (.putfield 43, 3) := by decide +kernel
theorem dX6_open_25 : decode cX6_open 25 = .ok (.aload_n 0, 1) := by decide +kernel
theorem dX6_open_26 : decode cX6_open 26 = .ok (.iconst 0, 1) := by decide +kernel
theorem dX6_open_27 : decode cX6_open 27 = .ok (.putfield 46, 3) := by decide +kernel
theorem dX6_open_30 : decode cX6_open 30 = .ok (.aload_n 0, 1) := by decide +kernel
theorem dX6_open_31 : decode cX6_open 31 = .ok (.invokevirtual 53, 3) := by decide +kernel
theorem dX6_open_34 : decode cX6_open 34 = .ok (.return_, 1) := by decide +kernel
theorem dX6_signAt_0 : decode cX6_signAt 0 = .ok (.iload_n 1, 1) := by decide +kernel
theorem dX6_signAt_1 : decode cX6_signAt 1 = .ok (.ifCond .lt 33, 3) := by decide +kernel
theorem dX6_signAt_4 : decode cX6_signAt 4 = .ok (.iload_n 1, 1) := by decide +kernel
theorem dX6_signAt_5 : decode cX6_signAt 5 = .ok (.aload_n 0, 1) := by decide +kernel
theorem dX6_signAt_6 : decode cX6_signAt 6 = .ok (.getfield 9, 3) := by decide +kernel
theorem dX6_signAt_9 : decode cX6_signAt 9 = .ok (.if_icmp .ge 25, 3) := by decide +kernel
theorem dX6_signAt_12 : decode cX6_signAt 12 = .ok (.iload_n 1, 1) := by decide +kernel
theorem dX6_signAt_13 : decode cX6_signAt 13 = .ok (.aload_n 0, 1) := by decide +kernel
theorem dX6_signAt_14 : decode cX6_signAt 14 = .ok (.getfield 49, 3) := by decide +kernel
theorem dX6_signAt_17 : decode cX6_signAt 17 = .ok (.arraylength, 1) := by decide +kernel
theorem dX6_signAt_18 : decode cX6_signAt 18 = .ok (.if_icmp .ge 16, 3) := by decide +kernel
theorem dX6_signAt_21 : decode cX6_signAt 21 = .ok (.aload_n 0, 1) := by decide +kernel
theorem dX6_signAt_22 : decode cX6_signAt 22 = .ok (.getfield 49, 3) := by decide +kernel
theorem dX6_signAt_25 : decode cX6_signAt 25 = .ok (.iload_n 1, 1) := by decide +kernel
theorem dX6_signAt_26 : decode cX6_signAt 26 = .ok (.baload, 1) := by decide +kernel
theorem dX6_signAt_27 : decode cX6_signAt 27 = .ok (.sipush 255, 3) := by decide +kernel
theorem dX6_signAt_30 : decode cX6_signAt 30 = .ok (.iand, 1) := by decide +kernel
theorem dX6_signAt_31 : decode cX6_signAt 31 = .ok (.goto 4, 3) := by decide +kernel
theorem dX6_signAt_34 : decode cX6_signAt 34 = .ok (.iconst 0, 1) := by decide +kernel
theorem dX6_signAt_35 : decode cX6_signAt 35 = .ok (.ireturn, 1) := by decide +kernel
theorem dX6_isLetter_0 : decode cX6_isLetter 0 = .ok (.iload_n 0, 1) := by decide +kernel
theorem dX6_isLetter_1 : decode cX6_isLetter 1 = .ok (.bipush 97, 2) := by decide +kernel
theorem dX6_isLetter_3 : decode cX6_isLetter 3 = .ok (.if_icmp .lt 13, 3) := by decide +kernel
theorem dX6_isLetter_6 : decode cX6_isLetter 6 = .ok (.iload_n 0, 1) := by decide +kernel
theorem dX6_isLetter_7 : decode cX6_isLetter 7 = .ok (.bipush 122, 2) := by decide +kernel
theorem dX6_isLetter_9 : decode cX6_isLetter 9 = .ok (.if_icmp .gt 7, 3) := by decide +kernel
theorem dX6_isLetter_12 : decode cX6_isLetter 12 = .ok (.iconst 1, 1) := by decide +kernel
theorem dX6_isLetter_13 : decode cX6_isLetter 13 = .ok (.goto 4, 3) := by decide +kernel
theorem dX6_isLetter_16 : decode cX6_isLetter 16 = .ok (.iconst 0, 1) := by decide +kernel
theorem dX6_isLetter_17 : decode cX6_isLetter 17 = .ok (.ireturn, 1) := by decide +kernel
theorem dX6_isDigit_0 : decode cX6_isDigit 0 = .ok (.iload_n 0, 1) := by decide +kernel
theorem dX6_isDigit_1 : decode cX6_isDigit 1 = .ok (.bipush 48, 2) := by decide +kernel
theorem dX6_isDigit_3 : decode cX6_isDigit 3 = .ok (.if_icmp .lt 13, 3) := by decide +kernel
theorem dX6_isDigit_6 : decode cX6_isDigit 6 = .ok (.iload_n 0, 1) := by decide +kernel
theorem dX6_isDigit_7 : decode cX6_isDigit 7 = .ok (.bipush 57, 2) := by decide +kernel
theorem dX6_isDigit_9 : decode cX6_isDigit 9 = .ok (.if_icmp .gt 7, 3) := by decide +kernel
theorem dX6_isDigit_12 : decode cX6_isDigit 12 = .ok (.iconst 1, 1) := by decide +kernel
theorem dX6_isDigit_13 : decode cX6_isDigit 13 = .ok (.goto 4, 3) := by decide +kernel
theorem dX6_isDigit_16 : decode cX6_isDigit 16 = .ok (.iconst 0, 1) := by decide +kernel
theorem dX6_isDigit_17 : decode cX6_isDigit 17 = .ok (.ireturn, 1) := by decide +kernel
theorem dX6_next_0 : decode cX6_next 0 = .ok (.aload_n 0, 1) := by decide +kernel
theorem dX6_next_1 : decode cX6_next 1 = .ok (.getfield 9, 3) := by decide +kernel
theorem dX6_next_4 : decode cX6_next 4 = .ok (.aload_n 0, 1) := by decide +kernel
theorem dX6_next_5 : decode cX6_next 5 = .ok (.getfield 15, 3) := by decide +kernel
theorem dX6_next_8 : decode cX6_next 8 = .ok (.invokestatic 56, 3) := by decide +kernel
theorem dX6_next_11 : decode cX6_next 11 = .ok (.istore_n 1, 1) := by decide +kernel
theorem dX6_next_12 : decode cX6_next 12 = .ok (.aload_n 0, 1) := by decide +kernel
theorem dX6_next_13 : decode cX6_next 13 = .ok (.getfield 18, 3) := by decide +kernel
theorem dX6_next_16 : decode cX6_next 16 = .ok (.iload_n 1, 1) := by decide +kernel
theorem dX6_next_17 : decode cX6_next 17 = .ok (.if_icmp .ge 42, 3) := by decide +kernel
theorem dX6_next_20 : decode cX6_next 20 = .ok (.aload_n 0, 1) := by decide +kernel
theorem dX6_next_21 : decode cX6_next 21 = .ok (.aload_n 0, 1) := by decide +kernel
theorem dX6_next_22 : decode cX6_next 22 = .ok (.getfield 18, 3) := by decide +kernel
theorem dX6_next_25 : decode cX6_next 25 = .ok (.invokevirtual 62, 3) := by decide +kernel
theorem dX6_next_28 : decode cX6_next 28 = .ok (.bipush 32, 2) := by decide +kernel
theorem dX6_next_30 : decode cX6_next 30 = .ok (.if_icmp .eq 16, 3) := by decide +kernel
theorem dX6_next_33 : decode cX6_next 33 = .ok (.aload_n 0, 1) := by decide +kernel
theorem dX6_next_34 : decode cX6_next 34 = .ok (.aload_n 0, 1) := by decide +kernel
theorem dX6_next_35 : decode cX6_next 35 = .ok (.getfield 18, 3) := by decide +kernel
theorem dX6_next_38 : decode cX6_next 38 = .ok (.invokevirtual 62, 3) := by decide +kernel
theorem dX6_next_41 : decode cX6_next 41 = .ok (.bipush 10, 2) := by decide +kernel
theorem dX6_next_43 : decode cX6_next 43 = .ok (.if_icmp .ne 16, 3) := by decide +kernel
theorem dX6_next_46 : decode cX6_next 46 = .ok (.aload_n 0, 1) := by decide +kernel
theorem dX6_next_47 : decode cX6_next 47 = .ok (.dup, 1) := by decide +kernel
theorem dX6_next_48 : decode cX6_next 48 = .ok (.getfield 18, 3) := by decide +kernel
theorem dX6_next_51 : decode cX6_next 51 = .ok (.iconst 1, 1) := by decide +kernel
theorem dX6_next_52 : decode cX6_next 52 = .ok (.iadd, 1) := by decide +kernel
theorem dX6_next_53 : decode cX6_next 53 = .ok (.putfield 18, 3) := by decide +kernel
theorem dX6_next_56 : decode cX6_next 56 = .ok (.goto (-44), 3) := by decide +kernel
theorem dX6_next_59 : decode cX6_next 59 = .ok (.aload_n 0, 1) := by decide +kernel
theorem dX6_next_60 : decode cX6_next 60 = .ok (.iconst (-1), 1) := by decide +kernel
theorem dX6_next_61 : decode cX6_next 61 = .ok (.putfield 27, 3) := by decide +kernel
theorem dX6_next_64 : decode cX6_next 64 = .ok (.aload_n 0, 1) := by decide +kernel
theorem dX6_next_65 : decode cX6_next 65 = .ok (.iconst 0, 1) := by decide +kernel
theorem dX6_next_66 : decode cX6_next 66 = .ok (.putfield 37, 3) := by decide +kernel
theorem dX6_next_69 : decode cX6_next 69 = .ok (.aload_n 0, 1) := by decide +kernel
theorem dX6_next_70 : decode cX6_next 70 = .ok (.getfield 18, 3) := by decide +kernel
theorem dX6_next_73 : decode cX6_next 73 = .ok (.iload_n 1, 1) := by decide +kernel
theorem dX6_next_74 : decode cX6_next 74 = .ok (.if_icmp .lt 14, 3) := by decide +kernel
theorem dX6_next_77 : decode cX6_next 77 = .ok (.aload_n 0, 1) := by decide +kernel
theorem dX6_next_78 : decode cX6_next 78 = .ok (.iload_n 1, 1) := by decide +kernel
theorem dX6_next_79 : decode cX6_next 79 = .ok (.putfield 24, 3) := by decide +kernel
theorem dX6_next_82 : decode cX6_next 82 = .ok (.aload_n 0, 1) := by decide +kernel
theorem dX6_next_83 : decode cX6_next 83 = .ok (.iconst 0, 1) := by decide +kernel
theorem dX6_next_84 : decode cX6_next 84 = .ok (.putfield 21, 3) := by decide +kernel
theorem dX6_next_87 : decode cX6_next 87 = .ok (.return_, 1) := by decide +kernel
theorem dX6_next_88 : decode cX6_next 88 = .ok (.aload_n 0, 1) := by decide +kernel
theorem dX6_next_89 : decode cX6_next 89 = .ok (.aload_n 0, 1) := by decide +kernel
theorem dX6_next_90 : decode cX6_next 90 = .ok (.getfield 18, 3) := by decide +kernel
theorem dX6_next_93 : decode cX6_next 93 = .ok (.putfield 24, 3) := by decide +kernel
theorem dX6_next_96 : decode cX6_next 96 = .ok (.aload_n 0, 1) := by decide +kernel
theorem dX6_next_97 : decode cX6_next 97 = .ok (.aload_n 0, 1) := by decide +kernel
theorem dX6_next_98 : decode cX6_next 98 = .ok (.getfield 18, 3) := by decide +kernel
theorem dX6_next_101 : decode cX6_next 101 = .ok (.invokevirtual 62, 3) := by decide +kernel
theorem dX6_next_104 : decode cX6_next 104 = .ok (.istore_n 2, 1) := by decide +kernel
theorem dX6_next_105 : decode cX6_next 105 = .ok (.iload_n 2, 1) := by decide +kernel
theorem dX6_next_106 : decode cX6_next 106 = .ok (.invokestatic 66, 3) := by decide +kernel
theorem dX6_next_109 : decode cX6_next 109 = .ok (.ifCond .ne 10, 3) := by decide +kernel
theorem dX6_next_112 : decode cX6_next 112 = .ok (.iload_n 2, 1) := by decide +kernel
theorem dX6_next_113 : decode cX6_next 113 = .ok (.invokestatic 70, 3) := by decide +kernel
theorem dX6_next_116 : decode cX6_next 116 = .ok (.ifCond .eq 8, 3) := by decide +kernel
theorem dX6_next_119 : decode cX6_next 119 = .ok (.aload_n 0, 1) := by decide +kernel
theorem dX6_next_120 : decode cX6_next 120 = .ok (.invokevirtual 73, 3) := by decide +kernel
theorem dX6_next_123 : decode cX6_next 123 = .ok (.return_, 1) := by decide +kernel
theorem dX6_next_124 : decode cX6_next 124 = .ok (.aload_n 0, 1) := by decide +kernel
theorem dX6_next_125 : decode cX6_next 125 = .ok (.dup, 1) := by decide +kernel
theorem dX6_next_126 : decode cX6_next 126 = .ok (.getfield 18, 3) := by decide +kernel
theorem dX6_next_129 : decode cX6_next 129 = .ok (.iconst 1, 1) := by decide +kernel
theorem dX6_next_130 : decode cX6_next 130 = .ok (.iadd, 1) := by decide +kernel
theorem dX6_next_131 : decode cX6_next 131 = .ok (.putfield 18, 3) := by decide +kernel
theorem dX6_next_134 : decode cX6_next 134 = .ok (.iload_n 2, 1) := by decide +kernel
theorem dX6_next_135 : decode cX6_next 135 = .ok (.bipush 59, 2) := by decide +kernel
theorem dX6_next_137 : decode cX6_next 137 = .ok (.if_icmp .eq 33, 3) := by decide +kernel
theorem dX6_next_140 : decode cX6_next 140 = .ok (.iload_n 2, 1) := by decide +kernel
theorem dX6_next_141 : decode cX6_next 141 = .ok (.bipush 60, 2) := by decide +kernel
theorem dX6_next_143 : decode cX6_next 143 = .ok (.if_icmp .eq 27, 3) := by decide +kernel
theorem dX6_next_146 : decode cX6_next 146 = .ok (.iload_n 2, 1) := by decide +kernel
theorem dX6_next_147 : decode cX6_next 147 = .ok (.bipush 61, 2) := by decide +kernel
theorem dX6_next_149 : decode cX6_next 149 = .ok (.if_icmp .eq 21, 3) := by decide +kernel
theorem dX6_next_152 : decode cX6_next 152 = .ok (.iload_n 2, 1) := by decide +kernel
theorem dX6_next_153 : decode cX6_next 153 = .ok (.bipush 62, 2) := by decide +kernel
theorem dX6_next_155 : decode cX6_next 155 = .ok (.if_icmp .eq 15, 3) := by decide +kernel
theorem dX6_next_158 : decode cX6_next 158 = .ok (.iload_n 2, 1) := by decide +kernel
theorem dX6_next_159 : decode cX6_next 159 = .ok (.bipush 40, 2) := by decide +kernel
theorem dX6_next_161 : decode cX6_next 161 = .ok (.if_icmp .eq 9, 3) := by decide +kernel
theorem dX6_next_164 : decode cX6_next 164 = .ok (.iload_n 2, 1) := by decide +kernel
theorem dX6_next_165 : decode cX6_next 165 = .ok (.bipush 41, 2) := by decide +kernel
theorem dX6_next_167 : decode cX6_next 167 = .ok (.if_icmp .ne 7, 3) := by decide +kernel
theorem dX6_next_170 : decode cX6_next 170 = .ok (.iconst 1, 1) := by decide +kernel
theorem dX6_next_171 : decode cX6_next 171 = .ok (.goto 4, 3) := by decide +kernel
theorem dX6_next_174 : decode cX6_next 174 = .ok (.iconst 0, 1) := by decide +kernel
theorem dX6_next_175 : decode cX6_next 175 = .ok (.istore_n 3, 1) := by decide +kernel
theorem dX6_next_176 : decode cX6_next 176 = .ok (.aload_n 0, 1) := by decide +kernel
theorem dX6_next_177 : decode cX6_next 177 = .ok (.iload_n 3, 1) := by decide +kernel
theorem dX6_next_178 : decode cX6_next 178 = .ok (.ifCond .eq 7, 3) := by decide +kernel
theorem dX6_next_181 : decode cX6_next 181 = .ok (.iconst 5, 1) := by decide +kernel
theorem dX6_next_182 : decode cX6_next 182 = .ok (.goto 4, 3) := by decide +kernel
theorem dX6_next_185 : decode cX6_next 185 = .ok (.iconst 1, 1) := by decide +kernel
theorem dX6_next_186 : decode cX6_next 186 = .ok (.putfield 21, 3) := by decide +kernel
theorem dX6_next_189 : decode cX6_next 189 = .ok (.aload_n 0, 1) := by decide +kernel
theorem dX6_next_190 : decode cX6_next 190 = .ok (.iload_n 3, 1) := by decide +kernel
theorem dX6_next_191 : decode cX6_next 191 = .ok (.ifCond .eq 7, 3) := by decide +kernel
theorem dX6_next_194 : decode cX6_next 194 = .ok (.iload_n 2, 1) := by decide +kernel
theorem dX6_next_195 : decode cX6_next 195 = .ok (.goto 4, 3) := by decide +kernel
theorem dX6_next_198 : decode cX6_next 198 = .ok (.iconst 0, 1) := by decide +kernel
theorem dX6_next_199 : decode cX6_next 199 = .ok (.putfield 37, 3) := by decide +kernel
theorem dX6_next_202 : decode cX6_next 202 = .ok (.return_, 1) := by decide +kernel
theorem dX6_readRun_0 : decode cX6_readRun 0 = .ok (.iconst 0, 1) := by decide +kernel
theorem dX6_readRun_1 : decode cX6_readRun 1 = .ok (.istore_n 1, 1) := by decide +kernel
theorem dX6_readRun_2 : decode cX6_readRun 2 = .ok (.iconst 0, 1) := by decide +kernel
theorem dX6_readRun_3 : decode cX6_readRun 3 = .ok (.istore_n 2, 1) := by decide +kernel
theorem dX6_readRun_4 : decode cX6_readRun 4 = .ok (.aload_n 0, 1) := by decide +kernel
theorem dX6_readRun_5 : decode cX6_readRun 5 = .ok (.lconst 0, 1) := by decide +kernel
theorem dX6_readRun_6 : decode cX6_readRun 6 = .ok (.putfield 30, 3) := by decide +kernel
theorem dX6_readRun_9 : decode cX6_readRun 9 = .ok (.aload_n 0, 1) := by decide +kernel
theorem dX6_readRun_10 : decode cX6_readRun 10 = .ok (.iconst 0, 1) := by decide +kernel
theorem dX6_readRun_11 : decode cX6_readRun 11 = .ok (.putfield 34, 3) := by decide +kernel
theorem dX6_readRun_14 : decode cX6_readRun 14 = .ok (.aload_n 0, 1) := by decide +kernel
theorem dX6_readRun_15 : decode cX6_readRun 15 = .ok (.getfield 18, 3) := by decide +kernel
theorem dX6_readRun_18 : decode cX6_readRun 18 = .ok (.aload_n 0, 1) := by decide +kernel
theorem dX6_readRun_19 : decode cX6_readRun 19 = .ok (.getfield 9, 3) := by decide +kernel
theorem dX6_readRun_22 : decode cX6_readRun 22 = .ok (.if_icmp .ge 99, 3) := by decide +kernel
theorem dX6_readRun_25 : decode cX6_readRun 25 = .ok (.aload_n 0, 1) := by decide +kernel
theorem dX6_readRun_26 : decode cX6_readRun 26 = .ok (.aload_n 0, 1) := by decide +kernel
theorem dX6_readRun_27 : decode cX6_readRun 27 = .ok (.getfield 18, 3) := by decide +kernel
theorem dX6_readRun_30 : decode cX6_readRun 30 = .ok (.invokevirtual 62, 3) := by decide +kernel
theorem dX6_readRun_33 : decode cX6_readRun 33 = .ok (.invokestatic 66, 3) := by decide +kernel
theorem dX6_readRun_36 : decode cX6_readRun 36 = .ok (.ifCond .ne 17, 3) := by decide +kernel
theorem dX6_readRun_39 : decode cX6_readRun 39 = .ok (.aload_n 0, 1) := by decide +kernel
theorem dX6_readRun_40 : decode cX6_readRun 40 = .ok (.aload_n 0, 1) := by decide +kernel
theorem dX6_readRun_41 : decode cX6_readRun 41 = .ok (.getfield 18, 3) := by decide +kernel
theorem dX6_readRun_44 : decode cX6_readRun 44 = .ok (.invokevirtual 62, 3) := by decide +kernel
theorem dX6_readRun_47 : decode cX6_readRun 47 = .ok (.invokestatic 70, 3) := by decide +kernel
theorem dX6_readRun_50 : decode cX6_readRun 50 = .ok (.ifCond .eq 71, 3) := by decide +kernel
theorem dX6_readRun_53 : decode cX6_readRun 53 = .ok (.aload_n 0, 1) := by decide +kernel
theorem dX6_readRun_54 : decode cX6_readRun 54 = .ok (.aload_n 0, 1) := by decide +kernel
theorem dX6_readRun_55 : decode cX6_readRun 55 = .ok (.getfield 18, 3) := by decide +kernel
theorem dX6_readRun_58 : decode cX6_readRun 58 = .ok (.invokevirtual 62, 3) := by decide +kernel
theorem dX6_readRun_61 : decode cX6_readRun 61 = .ok (.istore_n 3, 1) := by decide +kernel
theorem dX6_readRun_62 : decode cX6_readRun 62 = .ok (.iload_n 3, 1) := by decide +kernel
theorem dX6_readRun_63 : decode cX6_readRun 63 = .ok (.invokestatic 66, 3) := by decide +kernel
theorem dX6_readRun_66 : decode cX6_readRun 66 = .ok (.ifCond .eq 9, 3) := by decide +kernel
theorem dX6_readRun_69 : decode cX6_readRun 69 = .ok (.iinc 1 1, 3) := by decide +kernel
theorem dX6_readRun_72 : decode cX6_readRun 72 = .ok (.goto 6, 3) := by decide +kernel
theorem dX6_readRun_75 : decode cX6_readRun 75 = .ok (.iinc 2 1, 3) := by decide +kernel
theorem dX6_readRun_78 : decode cX6_readRun 78 = .ok (.aload_n 0, 1) := by decide +kernel
theorem dX6_readRun_79 : decode cX6_readRun 79 = .ok (.aload_n 0, 1) := by decide +kernel
theorem dX6_readRun_80 : decode cX6_readRun 80 = .ok (.getfield 30, 3) := by decide +kernel
theorem dX6_readRun_83 : decode cX6_readRun 83 = .ok (.bipush 8, 2) := by decide +kernel
theorem dX6_readRun_85 : decode cX6_readRun 85 = .ok (.lshl, 1) := by decide +kernel
theorem dX6_readRun_86 : decode cX6_readRun 86 = .ok (.iload_n 3, 1) := by decide +kernel
theorem dX6_readRun_87 : decode cX6_readRun 87 = .ok (.i2l, 1) := by decide +kernel
theorem dX6_readRun_88 : decode cX6_readRun 88 = .ok (.lor, 1) := by decide +kernel
theorem dX6_readRun_89 : decode cX6_readRun 89 = .ok (.putfield 30, 3) := by decide +kernel
theorem dX6_readRun_92 : decode cX6_readRun 92 = .ok (.aload_n 0, 1) := by decide +kernel
theorem dX6_readRun_93 : decode cX6_readRun 93 = .ok (.aload_n 0, 1) := by decide +kernel
theorem dX6_readRun_94 : decode cX6_readRun 94 = .ok (.getfield 34, 3) := by decide +kernel
theorem dX6_readRun_97 : decode cX6_readRun 97 = .ok (.bipush 10, 2) := by decide +kernel
theorem dX6_readRun_99 : decode cX6_readRun 99 = .ok (.imul, 1) := by decide +kernel
theorem dX6_readRun_100 : decode cX6_readRun 100 = .ok (.iload_n 3, 1) := by decide +kernel
theorem dX6_readRun_101 : decode cX6_readRun 101 = .ok (.bipush 48, 2) := by decide +kernel
theorem dX6_readRun_103 : decode cX6_readRun 103 = .ok (.isub, 1) := by decide +kernel
theorem dX6_readRun_104 : decode cX6_readRun 104 = .ok (.iadd, 1) := by decide +kernel
theorem dX6_readRun_105 : decode cX6_readRun 105 = .ok (.putfield 34, 3) := by decide +kernel
theorem dX6_readRun_108 : decode cX6_readRun 108 = .ok (.aload_n 0, 1) := by decide +kernel
theorem dX6_readRun_109 : decode cX6_readRun 109 = .ok (.dup, 1) := by decide +kernel
theorem dX6_readRun_110 : decode cX6_readRun 110 = .ok (.getfield 18, 3) := by decide +kernel
theorem dX6_readRun_113 : decode cX6_readRun 113 = .ok (.iconst 1, 1) := by decide +kernel
theorem dX6_readRun_114 : decode cX6_readRun 114 = .ok (.iadd, 1) := by decide +kernel
theorem dX6_readRun_115 : decode cX6_readRun 115 = .ok (.putfield 18, 3) := by decide +kernel
theorem dX6_readRun_118 : decode cX6_readRun 118 = .ok (.goto (-104), 3) := by decide +kernel
theorem dX6_readRun_121 : decode cX6_readRun 121 = .ok (.aload_n 0, 1) := by decide +kernel
theorem dX6_readRun_122 : decode cX6_readRun 122 = .ok (.iconst 1, 1) := by decide +kernel
theorem dX6_readRun_123 : decode cX6_readRun 123 = .ok (.putfield 21, 3) := by decide +kernel
theorem dX6_readRun_126 : decode cX6_readRun 126 = .ok (.iload_n 2, 1) := by decide +kernel
theorem dX6_readRun_127 : decode cX6_readRun 127 = .ok (.ifCond .ne 56, 3) := by decide +kernel
theorem dX6_readRun_130 : decode cX6_readRun 130 = .ok (.iload_n 1, 1) := by decide +kernel
theorem dX6_readRun_131 : decode cX6_readRun 131 = .ok (.bipush 7, 2) := by decide +kernel
theorem dX6_readRun_133 : decode cX6_readRun 133 = .ok (.if_icmp .gt 50, 3) := by decide +kernel
theorem dX6_readRun_136 : decode cX6_readRun 136 = .ok (.aload_n 0, 1) := by decide +kernel
theorem dX6_readRun_137 : decode cX6_readRun 137 = .ok (.aload_n 0, 1) := by decide +kernel
theorem dX6_readRun_138 : decode cX6_readRun 138 = .ok (.getfield 30, 3) := by decide +kernel
theorem dX6_readRun_141 : decode cX6_readRun 141 = .ok (.bipush 8, 2) := by decide +kernel
theorem dX6_readRun_143 : decode cX6_readRun 143 = .ok (.bipush 7, 2) := by decide +kernel
theorem dX6_readRun_145 : decode cX6_readRun 145 = .ok (.iload_n 1, 1) := by decide +kernel
theorem dX6_readRun_146 : decode cX6_readRun 146 = .ok (.isub, 1) := by decide +kernel
theorem dX6_readRun_147 : decode cX6_readRun 147 = .ok (.imul, 1) := by decide +kernel
theorem dX6_readRun_148 : decode cX6_readRun 148 = .ok (.lshl, 1) := by decide +kernel
theorem dX6_readRun_149 : decode cX6_readRun 149 = .ok (.putfield 30, 3) := by decide +kernel
theorem dX6_readRun_152 : decode cX6_readRun 152 = .ok (.aload_n 0, 1) := by decide +kernel
theorem dX6_readRun_153 : decode cX6_readRun 153 = .ok (.aload_n 0, 1) := by decide +kernel
theorem dX6_readRun_154 : decode cX6_readRun 154 = .ok (.getfield 30, 3) := by decide +kernel
theorem dX6_readRun_157 : decode cX6_readRun 157 = .ok (.invokestatic 76, 3) := by decide +kernel
theorem dX6_readRun_160 : decode cX6_readRun 160 = .ok (.putfield 27, 3) := by decide +kernel
theorem dX6_readRun_163 : decode cX6_readRun 163 = .ok (.aload_n 0, 1) := by decide +kernel
theorem dX6_readRun_164 : decode cX6_readRun 164 = .ok (.aload_n 0, 1) := by decide +kernel
theorem dX6_readRun_165 : decode cX6_readRun 165 = .ok (.getfield 27, 3) := by decide +kernel
theorem dX6_readRun_168 : decode cX6_readRun 168 = .ok (.iconst (-1), 1) := by decide +kernel
theorem dX6_readRun_169 : decode cX6_readRun 169 = .ok (.if_icmp .ne 7, 3) := by decide +kernel
theorem dX6_readRun_172 : decode cX6_readRun 172 = .ok (.iconst 3, 1) := by decide +kernel
theorem dX6_readRun_173 : decode cX6_readRun 173 = .ok (.goto 4, 3) := by decide +kernel
theorem dX6_readRun_176 : decode cX6_readRun 176 = .ok (.iconst 2, 1) := by decide +kernel
theorem dX6_readRun_177 : decode cX6_readRun 177 = .ok (.putfield 21, 3) := by decide +kernel
theorem dX6_readRun_180 : decode cX6_readRun 180 = .ok (.goto 17, 3) := by decide +kernel
theorem dX6_readRun_183 : decode cX6_readRun 183 = .ok (.iload_n 1, 1) := by decide +kernel
theorem dX6_readRun_184 : decode cX6_readRun 184 = .ok (.ifCond .ne 13, 3) := by decide +kernel
theorem dX6_readRun_187 : decode cX6_readRun 187 = .ok (.iload_n 2, 1) := by decide +kernel
theorem dX6_readRun_188 : decode cX6_readRun 188 = .ok (.iconst 3, 1) := by decide +kernel
theorem dX6_readRun_189 : decode cX6_readRun 189 = .ok (.if_icmp .gt 8, 3) := by decide +kernel
theorem dX6_readRun_192 : decode cX6_readRun 192 = .ok (.aload_n 0, 1) := by decide +kernel
theorem dX6_readRun_193 : decode cX6_readRun 193 = .ok (.iconst 4, 1) := by decide +kernel
theorem dX6_readRun_194 : decode cX6_readRun 194 = .ok (.putfield 21, 3) := by decide +kernel
theorem dX6_readRun_197 : decode cX6_readRun 197 = .ok (.return_, 1) := by decide +kernel
theorem dX6_findWord_0 : decode cX6_findWord 0 = .ok (.iconst 0, 1) := by decide +kernel
theorem dX6_findWord_1 : decode cX6_findWord 1 = .ok (.istore_n 2, 1) := by decide +kernel
theorem dX6_findWord_2 : decode cX6_findWord 2 = .ok (.iload_n 2, 1) := by decide +kernel
theorem dX6_findWord_3 : decode cX6_findWord 3 = .ok (.getstatic 80, 3) := by decide +kernel
theorem dX6_findWord_6 : decode cX6_findWord 6 = .ok (.arraylength, 1) := by decide +kernel
theorem dX6_findWord_7 : decode cX6_findWord 7 = .ok (.if_icmp .ge 21, 3) := by decide +kernel
theorem dX6_findWord_10 : decode cX6_findWord 10 = .ok (.getstatic 80, 3) := by decide +kernel
theorem dX6_findWord_13 : decode cX6_findWord 13 = .ok (.iload_n 2, 1) := by decide +kernel
theorem dX6_findWord_14 : decode cX6_findWord 14 = .ok (.laload, 1) := by decide +kernel
theorem dX6_findWord_15 : decode cX6_findWord 15 = .ok (.lload_n 0, 1) := by decide +kernel
theorem dX6_findWord_16 : decode cX6_findWord 16 = .ok (.lcmp, 1) := by decide +kernel
theorem dX6_findWord_17 : decode cX6_findWord 17 = .ok (.ifCond .ne 5, 3) := by decide +kernel
theorem dX6_findWord_20 : decode cX6_findWord 20 = .ok (.iload_n 2, 1) := by decide +kernel
theorem dX6_findWord_21 : decode cX6_findWord 21 = .ok (.ireturn, 1) := by decide +kernel
theorem dX6_findWord_22 : decode cX6_findWord 22 = .ok (.iinc 2 1, 3) := by decide +kernel
theorem dX6_findWord_25 : decode cX6_findWord 25 = .ok (.goto (-23), 3) := by decide +kernel
theorem dX6_findWord_28 : decode cX6_findWord 28 = .ok (.iconst (-1), 1) := by decide +kernel
theorem dX6_findWord_29 : decode cX6_findWord 29 = .ok (.ireturn, 1) := by decide +kernel
theorem dX6_fail_0 : decode cX6_fail 0 = .ok (.aload_n 0, 1) := by decide +kernel
theorem dX6_fail_1 : decode cX6_fail 1 = .ok (.iload_n 1, 1) := by decide +kernel
theorem dX6_fail_2 : decode cX6_fail 2 = .ok (.putfield 43, 3) := by decide +kernel
theorem dX6_fail_5 : decode cX6_fail 5 = .ok (.aload_n 0, 1) := by decide +kernel
theorem dX6_fail_6 : decode cX6_fail 6 = .ok (.aload_n 0, 1) := by decide +kernel
theorem dX6_fail_7 : decode cX6_fail 7 = .ok (.getfield 24, 3) := by decide +kernel
theorem dX6_fail_10 : decode cX6_fail 10 = .ok (.putfield 46, 3) := by decide +kernel
theorem dX6_fail_13 : decode cX6_fail 13 = .ok (.iconst 0, 1) := by decide +kernel
theorem dX6_fail_14 : decode cX6_fail 14 = .ok (.ireturn, 1) := by decide +kernel
theorem dX6_isWhole_0 : decode cX6_isWhole 0 = .ok (.aload_n 0, 1) := by decide +kernel
theorem dX6_isWhole_1 : decode cX6_isWhole 1 = .ok (.getfield 9, 3) := by decide +kernel
theorem dX6_isWhole_4 : decode cX6_isWhole 4 = .ok (.aload_n 0, 1) := by decide +kernel
theorem dX6_isWhole_5 : decode cX6_isWhole 5 = .ok (.getfield 15, 3) := by decide +kernel
theorem dX6_isWhole_8 : decode cX6_isWhole 8 = .ok (.if_icmp .le 11, 3) := by decide +kernel
theorem dX6_isWhole_11 : decode cX6_isWhole 11 = .ok (.aload_n 0, 1) := by decide +kernel
theorem dX6_isWhole_12 : decode cX6_isWhole 12 = .ok (.iconst 1, 1) := by decide +kernel
theorem dX6_isWhole_13 : decode cX6_isWhole 13 = .ok (.invokevirtual 84, 3) := by decide +kernel
theorem dX6_isWhole_16 : decode cX6_isWhole 16 = .ok (.ifCond .eq 7, 3) := by decide +kernel
theorem dX6_isWhole_19 : decode cX6_isWhole 19 = .ok (.iconst 1, 1) := by decide +kernel
theorem dX6_isWhole_20 : decode cX6_isWhole 20 = .ok (.goto 4, 3) := by decide +kernel
theorem dX6_isWhole_23 : decode cX6_isWhole 23 = .ok (.iconst 0, 1) := by decide +kernel
theorem dX6_isWhole_24 : decode cX6_isWhole 24 = .ok (.ireturn, 1) := by decide +kernel
theorem dX6_passSign_0 : decode cX6_passSign 0 = .ok (.aload_n 0, 1) := by decide +kernel
theorem dX6_passSign_1 : decode cX6_passSign 1 = .ok (.getfield 37, 3) := by decide +kernel
theorem dX6_passSign_4 : decode cX6_passSign 4 = .ok (.iload_n 1, 1) := by decide +kernel
theorem dX6_passSign_5 : decode cX6_passSign 5 = .ok (.if_icmp .eq 9, 3) := by decide +kernel
theorem dX6_passSign_8 : decode cX6_passSign 8 = .ok (.aload_n 0, 1) := by decide +kernel
theorem dX6_passSign_9 : decode cX6_passSign 9 = .ok (.iconst 1, 1) := by decide +kernel
theorem dX6_passSign_10 : decode cX6_passSign 10 = .ok (.invokevirtual 84, 3) := by decide +kernel
theorem dX6_passSign_13 : decode cX6_passSign 13 = .ok (.ireturn, 1) := by decide +kernel
theorem dX6_passSign_14 : decode cX6_passSign 14 = .ok (.aload_n 0, 1) := by decide +kernel
theorem dX6_passSign_15 : decode cX6_passSign 15 = .ok (.invokevirtual 53, 3) := by decide +kernel
theorem dX6_passSign_18 : decode cX6_passSign 18 = .ok (.iconst 1, 1) := by decide +kernel
theorem dX6_passSign_19 : decode cX6_passSign 19 = .ok (.ireturn, 1) := by decide +kernel
theorem dX6_passLineEnd_0 : decode cX6_passLineEnd 0 = .ok (.aload_n 0, 1) := by decide +kernel
theorem dX6_passLineEnd_1 : decode cX6_passLineEnd 1 = .ok (.getfield 37, 3) := by decide +kernel
theorem dX6_passLineEnd_4 : decode cX6_passLineEnd 4 = .ok (.bipush 59, 2) := by decide +kernel
theorem dX6_passLineEnd_6 : decode cX6_passLineEnd 6 = .ok (.if_icmp .eq 9, 3) := by decide +kernel
theorem dX6_passLineEnd_9 : decode cX6_passLineEnd 9 = .ok (.aload_n 0, 1) := by decide +kernel
theorem dX6_passLineEnd_10 : decode cX6_passLineEnd 10 = .ok (.iconst 1, 1) := by decide +kernel
theorem dX6_passLineEnd_11 : decode cX6_passLineEnd 11 = .ok (.invokevirtual 84, 3) := by decide +kernel
theorem dX6_passLineEnd_14 : decode cX6_passLineEnd 14 = .ok (.ireturn, 1) := by decide +kernel
theorem dX6_passLineEnd_15 : decode cX6_passLineEnd 15 = .ok (.aload_n 0, 1) := by decide +kernel
theorem dX6_passLineEnd_16 : decode cX6_passLineEnd 16 = .ok (.dup, 1) := by decide +kernel
theorem dX6_passLineEnd_17 : decode cX6_passLineEnd 17 = .ok (.getfield 40, 3) := by decide +kernel
theorem dX6_passLineEnd_20 : decode cX6_passLineEnd 20 = .ok (.iconst 1, 1) := by decide +kernel
theorem dX6_passLineEnd_21 : decode cX6_passLineEnd 21 = .ok (.iadd, 1) := by decide +kernel
theorem dX6_passLineEnd_22 : decode cX6_passLineEnd 22 = .ok (.putfield 40, 3) := by decide +kernel
theorem dX6_passLineEnd_25 : decode cX6_passLineEnd 25 = .ok (.aload_n 0, 1) := by decide +kernel
theorem dX6_passLineEnd_26 : decode cX6_passLineEnd 26 = .ok (.invokevirtual 53, 3) := by decide +kernel
theorem dX6_passLineEnd_29 : decode cX6_passLineEnd 29 = .ok (.iconst 1, 1) := by decide +kernel
theorem dX6_passLineEnd_30 : decode cX6_passLineEnd 30 = .ok (.ireturn, 1) := by decide +kernel
theorem dX6_seeNumber_0 : decode cX6_seeNumber 0 = .ok (.aload_n 0, 1) := by decide +kernel
theorem dX6_seeNumber_1 : decode cX6_seeNumber 1 = .ok (.getfield 21, 3) := by decide +kernel
theorem dX6_seeNumber_4 : decode cX6_seeNumber 4 = .ok (.iconst 4, 1) := by decide +kernel
theorem dX6_seeNumber_5 : decode cX6_seeNumber 5 = .ok (.if_icmp .eq 11, 3) := by decide +kernel
theorem dX6_seeNumber_8 : decode cX6_seeNumber 8 = .ok (.aload_n 0, 1) := by decide +kernel
theorem dX6_seeNumber_9 : decode cX6_seeNumber 9 = .ok (.iconst 1, 1) := by decide +kernel
theorem dX6_seeNumber_10 : decode cX6_seeNumber 10 = .ok (.invokevirtual 84, 3) := by decide +kernel
theorem dX6_seeNumber_13 : decode cX6_seeNumber 13 = .ok (.pop, 1) := by decide +kernel
theorem dX6_seeNumber_14 : decode cX6_seeNumber 14 = .ok (.iconst (-1), 1) := by decide +kernel
theorem dX6_seeNumber_15 : decode cX6_seeNumber 15 = .ok (.ireturn, 1) := by decide +kernel
theorem dX6_seeNumber_16 : decode cX6_seeNumber 16 = .ok (.aload_n 0, 1) := by decide +kernel
theorem dX6_seeNumber_17 : decode cX6_seeNumber 17 = .ok (.getfield 34, 3) := by decide +kernel
theorem dX6_seeNumber_20 : decode cX6_seeNumber 20 = .ok (.iload_n 1, 1) := by decide +kernel
theorem dX6_seeNumber_21 : decode cX6_seeNumber 21 = .ok (.if_icmp .lt 11, 3) := by decide +kernel
theorem dX6_seeNumber_24 : decode cX6_seeNumber 24 = .ok (.aload_n 0, 1) := by decide +kernel
theorem dX6_seeNumber_25 : decode cX6_seeNumber 25 = .ok (.getfield 34, 3) := by decide +kernel
theorem dX6_seeNumber_28 : decode cX6_seeNumber 28 = .ok (.iload_n 2, 1) := by decide +kernel
theorem dX6_seeNumber_29 : decode cX6_seeNumber 29 = .ok (.if_icmp .le 11, 3) := by decide +kernel
theorem dX6_seeNumber_32 : decode cX6_seeNumber 32 = .ok (.aload_n 0, 1) := by decide +kernel
theorem dX6_seeNumber_33 : decode cX6_seeNumber 33 = .ok (.iconst 2, 1) := by decide +kernel
theorem dX6_seeNumber_34 : decode cX6_seeNumber 34 = .ok (.invokevirtual 84, 3) := by decide +kernel
theorem dX6_seeNumber_37 : decode cX6_seeNumber 37 = .ok (.pop, 1) := by decide +kernel
theorem dX6_seeNumber_38 : decode cX6_seeNumber 38 = .ok (.iconst (-1), 1) := by decide +kernel
theorem dX6_seeNumber_39 : decode cX6_seeNumber 39 = .ok (.ireturn, 1) := by decide +kernel
theorem dX6_seeNumber_40 : decode cX6_seeNumber 40 = .ok (.aload_n 0, 1) := by decide +kernel
theorem dX6_seeNumber_41 : decode cX6_seeNumber 41 = .ok (.getfield 34, 3) := by decide +kernel
theorem dX6_seeNumber_44 : decode cX6_seeNumber 44 = .ok (.ireturn, 1) := by decide +kernel
theorem dX6_seePeer_0 : decode cX6_seePeer 0 = .ok (.aload_n 0, 1) := by decide +kernel
theorem dX6_seePeer_1 : decode cX6_seePeer 1 = .ok (.aload_n 1, 1) := by decide +kernel
theorem dX6_seePeer_2 : decode cX6_seePeer 2 = .ok (.aload_n 0, 1) := by decide +kernel
theorem dX6_seePeer_3 : decode cX6_seePeer 3 = .ok (.getfield 30, 3) := by decide +kernel
theorem dX6_seePeer_6 : decode cX6_seePeer 6 = .ok (.invokevirtual 87, 3) := by decide +kernel
theorem dX6_seePeer_9 : decode cX6_seePeer 9 = .ok (.invokevirtual 92, 3) := by decide +kernel
theorem dX6_seePeer_12 : decode cX6_seePeer 12 = .ok (.ireturn, 1) := by decide +kernel
theorem dX6_seeKey_0 : decode cX6_seeKey 0 = .ok (.aload_n 0, 1) := by decide +kernel
theorem dX6_seeKey_1 : decode cX6_seeKey 1 = .ok (.aload_n 1, 1) := by decide +kernel
theorem dX6_seeKey_2 : decode cX6_seeKey 2 = .ok (.aload_n 0, 1) := by decide +kernel
theorem dX6_seeKey_3 : decode cX6_seeKey 3 = .ok (.getfield 30, 3) := by decide +kernel
theorem dX6_seeKey_6 : decode cX6_seeKey 6 = .ok (.invokevirtual 95, 3) := by decide +kernel
theorem dX6_seeKey_9 : decode cX6_seeKey 9 = .ok (.invokevirtual 92, 3) := by decide +kernel
theorem dX6_seeKey_12 : decode cX6_seeKey 12 = .ok (.ireturn, 1) := by decide +kernel
theorem dX6_seen_0 : decode cX6_seen 0 = .ok (.aload_n 0, 1) := by decide +kernel
theorem dX6_seen_1 : decode cX6_seen 1 = .ok (.getfield 21, 3) := by decide +kernel
theorem dX6_seen_4 : decode cX6_seen 4 = .ok (.iconst 3, 1) := by decide +kernel
theorem dX6_seen_5 : decode cX6_seen 5 = .ok (.if_icmp .eq 11, 3) := by decide +kernel
theorem dX6_seen_8 : decode cX6_seen 8 = .ok (.aload_n 0, 1) := by decide +kernel
theorem dX6_seen_9 : decode cX6_seen 9 = .ok (.iconst 1, 1) := by decide +kernel
theorem dX6_seen_10 : decode cX6_seen 10 = .ok (.invokevirtual 84, 3) := by decide +kernel
theorem dX6_seen_13 : decode cX6_seen 13 = .ok (.pop, 1) := by decide +kernel
theorem dX6_seen_14 : decode cX6_seen 14 = .ok (.iconst (-1), 1) := by decide +kernel
theorem dX6_seen_15 : decode cX6_seen 15 = .ok (.ireturn, 1) := by decide +kernel
theorem dX6_seen_16 : decode cX6_seen 16 = .ok (.iload_n 1, 1) := by decide +kernel
theorem dX6_seen_17 : decode cX6_seen 17 = .ok (.iconst (-1), 1) := by decide +kernel
theorem dX6_seen_18 : decode cX6_seen 18 = .ok (.if_icmp .ne 9, 3) := by decide +kernel
theorem dX6_seen_21 : decode cX6_seen 21 = .ok (.aload_n 0, 1) := by decide +kernel
theorem dX6_seen_22 : decode cX6_seen 22 = .ok (.iconst 3, 1) := by decide +kernel
theorem dX6_seen_23 : decode cX6_seen 23 = .ok (.invokevirtual 84, 3) := by decide +kernel
theorem dX6_seen_26 : decode cX6_seen 26 = .ok (.pop, 1) := by decide +kernel
theorem dX6_seen_27 : decode cX6_seen 27 = .ok (.iload_n 1, 1) := by decide +kernel
theorem dX6_seen_28 : decode cX6_seen 28 = .ok (.ireturn, 1) := by decide +kernel
theorem dX7_init_0 : decode cX7_init 0 = .ok (.aload_n 0, 1) := by decide +kernel
theorem dX7_init_1 : decode cX7_init 1 = .ok (.invokespecial 3, 3) := by decide +kernel
theorem dX7_init_4 : decode cX7_init 4 = .ok (.aload_n 0, 1) := by decide +kernel
theorem dX7_init_5 : decode cX7_init 5 = .ok (.bipush 60, 2) := by decide +kernel
theorem dX7_init_7 : decode cX7_init 7 = .ok (.newarray .int, 2) := by decide +kernel
theorem dX7_init_9 : decode cX7_init 9 = .ok (.putfield 9, 3) := by decide +kernel
theorem dX7_init_12 : decode cX7_init 12 = .ok (.aload_n 0, 1) := by decide +kernel
theorem dX7_init_13 : decode cX7_init 13 = .ok (.iconst 0, 1) := by decide +kernel
theorem dX7_init_14 : decode cX7_init 14 = .ok (.putfield 15, 3) := by decide +kernel
theorem dX7_init_17 : decode cX7_init 17 = .ok (.aload_n 0, 1) := by decide +kernel
theorem dX7_init_18 : decode cX7_init 18 = .ok (.iconst 0, 1) := by decide +kernel
theorem dX7_init_19 : decode cX7_init 19 = .ok (.putfield 19, 3) := by decide +kernel
theorem dX7_init_22 : decode cX7_init 22 = .ok (.return_, 1) := by decide +kernel
theorem dX7_clear_0 : decode cX7_clear 0 = .ok (.aload_n 0, 1) := by decide +kernel
theorem dX7_clear_1 : decode cX7_clear 1 = .ok (.iconst 0, 1) := by decide +kernel
theorem dX7_clear_2 : decode cX7_clear 2 = .ok (.putfield 15, 3) := by decide +kernel
theorem dX7_clear_5 : decode cX7_clear 5 = .ok (.aload_n 0, 1) := by decide +kernel
theorem dX7_clear_6 : decode cX7_clear 6 = .ok (.iconst 0, 1) := by decide +kernel
theorem dX7_clear_7 : decode cX7_clear 7 = .ok (.putfield 19, 3) := by decide +kernel
theorem dX7_clear_10 : decode cX7_clear 10 = .ok (.return_, 1) := by decide +kernel
theorem dX7_copyFrom_0 : decode cX7_copyFrom 0 = .ok (.aload_n 1, 1) := by decide +kernel
theorem dX7_copyFrom_1 : decode cX7_copyFrom 1 = .ok (.getfield 9, 3) := by decide +kernel
theorem dX7_copyFrom_4 : decode cX7_copyFrom 4 = .ok (.iconst 0, 1) := by decide +kernel
theorem dX7_copyFrom_5 : decode cX7_copyFrom 5 = .ok (.aload_n 0, 1) := by decide +kernel
theorem dX7_copyFrom_6 : decode cX7_copyFrom 6 = .ok (.getfield 9, 3) := by decide +kernel
theorem dX7_copyFrom_9 : decode cX7_copyFrom 9 = .ok (.iconst 0, 1) := by decide +kernel
theorem dX7_copyFrom_10 : decode cX7_copyFrom 10 = .ok (.bipush 60, 2) := by decide +kernel
theorem dX7_copyFrom_12 : decode cX7_copyFrom 12 = .ok (.invokestatic 22, 3) := by decide +kernel
theorem dX7_copyFrom_15 : decode cX7_copyFrom 15 = .ok (.aload_n 0, 1) := by decide +kernel
theorem dX7_copyFrom_16 : decode cX7_copyFrom 16 = .ok (.aload_n 1, 1) := by decide +kernel
theorem dX7_copyFrom_17 : decode cX7_copyFrom 17 = .ok (.getfield 15, 3) := by decide +kernel
theorem dX7_copyFrom_20 : decode cX7_copyFrom 20 = .ok (.putfield 15, 3) := by decide +kernel
theorem dX7_copyFrom_23 : decode cX7_copyFrom 23 = .ok (.aload_n 0, 1) := by decide +kernel
theorem dX7_copyFrom_24 : decode cX7_copyFrom 24 = .ok (.aload_n 1, 1) := by decide +kernel
theorem dX7_copyFrom_25 : decode cX7_copyFrom 25 = .ok (.getfield 19, 3) := by decide +kernel
theorem dX7_copyFrom_28 : decode cX7_copyFrom 28 = .ok (.putfield 19, 3) := by decide +kernel
theorem dX7_copyFrom_31 : decode cX7_copyFrom 31 = .ok (.return_, 1) := by decide +kernel
theorem dX7_read_0 : decode cX7_read 0 = .ok (.aload_n 0, 1) := by decide +kernel
theorem dX7_read_1 : decode cX7_read 1 = .ok (.invokevirtual 28, 3) := by decide +kernel
theorem dX7_read_4 : decode cX7_read 4 = .ok (.aload_n 0, 1) := by decide +kernel
theorem dX7_read_5 : decode cX7_read 5 = .ok (.aload_n 1, 1) := by decide +kernel
theorem dX7_read_6 : decode cX7_read 6 = .ok (.aload_n 2, 1) := by decide +kernel
theorem dX7_read_7 : decode cX7_read 7 = .ok (.iconst 1, 1) := by decide +kernel
theorem dX7_read_8 : decode cX7_read 8 = .ok (.invokevirtual 31, 3) := by decide +kernel
theorem dX7_read_11 : decode cX7_read 11 = .ok (.ifCond .ne 5, 3) := by decide +kernel
theorem dX7_read_14 : decode cX7_read 14 = .ok (.iconst 0, 1) := by decide +kernel
theorem dX7_read_15 : decode cX7_read 15 = .ok (.ireturn, 1) := by decide +kernel
theorem dX7_read_16 : decode cX7_read 16 = .ok (.aload_n 1, 1) := by decide +kernel
theorem dX7_read_17 : decode cX7_read 17 = .ok (.getfield 35, 3) := by decide +kernel
theorem dX7_read_20 : decode cX7_read 20 = .ok (.ifCond .ne 10, 3) := by decide +kernel
theorem dX7_read_23 : decode cX7_read 23 = .ok (.aload_n 1, 1) := by decide +kernel
theorem dX7_read_24 : decode cX7_read 24 = .ok (.invokevirtual 40, 3) := by decide +kernel
theorem dX7_read_27 : decode cX7_read 27 = .ok (.goto 8, 3) := by decide +kernel
theorem dX7_read_30 : decode cX7_read 30 = .ok (.aload_n 1, 1) := by decide +kernel
theorem dX7_read_31 : decode cX7_read 31 = .ok (.iconst 1, 1) := by decide +kernel
theorem dX7_read_32 : decode cX7_read 32 = .ok (.invokevirtual 44, 3) := by decide +kernel
theorem dX7_read_35 : decode cX7_read 35 = .ok (.ireturn, 1) := by decide +kernel
theorem dX7_readCond_0 : decode cX7_readCond 0 = .ok (.aload_n 0, 1) := by decide +kernel
theorem dX7_readCond_1 : decode cX7_readCond 1 = .ok (.aload_n 1, 1) := by decide +kernel
theorem dX7_readCond_2 : decode cX7_readCond 2 = .ok (.aload_n 2, 1) := by decide +kernel
theorem dX7_readCond_3 : decode cX7_readCond 3 = .ok (.iload_n 3, 1) := by decide +kernel
theorem dX7_readCond_4 : decode cX7_readCond 4 = .ok (.invokevirtual 48, 3) := by decide +kernel
theorem dX7_readCond_7 : decode cX7_readCond 7 = .ok (.ifCond .ne 5, 3) := by decide +kernel
theorem dX7_readCond_10 : decode cX7_readCond 10 = .ok (.iconst 0, 1) := by decide +kernel
theorem dX7_readCond_11 : decode cX7_readCond 11 = .ok (.ireturn, 1) := by decide +kernel
theorem dX7_readCond_12 : decode cX7_readCond 12 = .ok (.iconst 0, 1) := by decide +kernel
theorem dX7_readCond_13 : decode cX7_readCond 13 = .ok (.istore 4, 2) := by decide +kernel
theorem dX7_readCond_15 : decode cX7_readCond 15 = .ok (.iload 4, 2) := by decide +kernel
theorem dX7_readCond_17 : decode cX7_readCond 17 = .ok (.sipush 940, 3) := by decide +kernel
theorem dX7_readCond_20 : decode cX7_readCond 20 = .ok (.if_icmp .ge 42, 3) := by decide +kernel
theorem dX7_readCond_23 : decode cX7_readCond 23 = .ok (.aload_n 1, 1) := by decide +kernel
theorem dX7_readCond_24 : decode cX7_readCond 24 = .ok (.getfield 51, 3) := by decide +kernel
theorem dX7_readCond_27 : decode cX7_readCond 27 = .ok (.bipush 14, 2) := by decide +kernel
theorem dX7_readCond_29 : decode cX7_readCond 29 = .ok (.if_icmp .ne 33, 3) := by decide +kernel
theorem dX7_readCond_32 : decode cX7_readCond 32 = .ok (.aload_n 1, 1) := by decide +kernel
theorem dX7_readCond_33 : decode cX7_readCond 33 = .ok (.invokevirtual 54, 3) := by decide +kernel
theorem dX7_readCond_36 : decode cX7_readCond 36 = .ok (.aload_n 0, 1) := by decide +kernel
theorem dX7_readCond_37 : decode cX7_readCond 37 = .ok (.aload_n 1, 1) := by decide +kernel
theorem dX7_readCond_38 : decode cX7_readCond 38 = .ok (.aload_n 2, 1) := by decide +kernel
theorem dX7_readCond_39 : decode cX7_readCond 39 = .ok (.iload_n 3, 1) := by decide +kernel
theorem dX7_readCond_40 : decode cX7_readCond 40 = .ok (.invokevirtual 48, 3) := by decide +kernel
theorem dX7_readCond_43 : decode cX7_readCond 43 = .ok (.ifCond .ne 5, 3) := by decide +kernel
theorem dX7_readCond_46 : decode cX7_readCond 46 = .ok (.iconst 0, 1) := by decide +kernel
theorem dX7_readCond_47 : decode cX7_readCond 47 = .ok (.ireturn, 1) := by decide +kernel
theorem dX7_readCond_48 : decode cX7_readCond 48 = .ok (.aload_n 0, 1) := by decide +kernel
theorem dX7_readCond_49 : decode cX7_readCond 49 = .ok (.bipush 14, 2) := by decide +kernel
theorem dX7_readCond_51 : decode cX7_readCond 51 = .ok (.iconst 0, 1) := by decide +kernel
theorem dX7_readCond_52 : decode cX7_readCond 52 = .ok (.iconst 0, 1) := by decide +kernel
theorem dX7_readCond_53 : decode cX7_readCond 53 = .ok (.invokevirtual 57, 3) := by decide +kernel
theorem dX7_readCond_56 : decode cX7_readCond 56 = .ok (.iinc 4 1, 3) := by decide +kernel
theorem dX7_readCond_59 : decode cX7_readCond 59 = .ok (.goto (-44), 3) := by decide +kernel
theorem dX7_readCond_62 : decode cX7_readCond 62 = .ok (.iconst 1, 1) := by decide +kernel
theorem dX7_readCond_63 : decode cX7_readCond 63 = .ok (.ireturn, 1) := by decide +kernel
theorem dX7_readAll_0 : decode cX7_readAll 0 = .ok (.aload_n 0, 1) := by decide +kernel
theorem dX7_readAll_1 : decode cX7_readAll 1 = .ok (.aload_n 1, 1) := by decide +kernel
theorem dX7_readAll_2 : decode cX7_readAll 2 = .ok (.aload_n 2, 1) := by decide +kernel
theorem dX7_readAll_3 : decode cX7_readAll 3 = .ok (.iload_n 3, 1) := by decide +kernel
theorem dX7_readAll_4 : decode cX7_readAll 4 = .ok (.invokevirtual 61, 3) := by decide +kernel
theorem dX7_readAll_7 : decode cX7_readAll 7 = .ok (.ifCond .ne 5, 3) := by decide +kernel
theorem dX7_readAll_10 : decode cX7_readAll 10 = .ok (.iconst 0, 1) := by decide +kernel
theorem dX7_readAll_11 : decode cX7_readAll 11 = .ok (.ireturn, 1) := by decide +kernel
theorem dX7_readAll_12 : decode cX7_readAll 12 = .ok (.iconst 0, 1) := by decide +kernel
theorem dX7_readAll_13 : decode cX7_readAll 13 = .ok (.istore 4, 2) := by decide +kernel
theorem dX7_readAll_15 : decode cX7_readAll 15 = .ok (.iload 4, 2) := by decide +kernel
theorem dX7_readAll_17 : decode cX7_readAll 17 = .ok (.sipush 940, 3) := by decide +kernel
theorem dX7_readAll_20 : decode cX7_readAll 20 = .ok (.if_icmp .ge 42, 3) := by decide +kernel
theorem dX7_readAll_23 : decode cX7_readAll 23 = .ok (.aload_n 1, 1) := by decide +kernel
theorem dX7_readAll_24 : decode cX7_readAll 24 = .ok (.getfield 51, 3) := by decide +kernel
theorem dX7_readAll_27 : decode cX7_readAll 27 = .ok (.bipush 15, 2) := by decide +kernel
theorem dX7_readAll_29 : decode cX7_readAll 29 = .ok (.if_icmp .ne 33, 3) := by decide +kernel
theorem dX7_readAll_32 : decode cX7_readAll 32 = .ok (.aload_n 1, 1) := by decide +kernel
theorem dX7_readAll_33 : decode cX7_readAll 33 = .ok (.invokevirtual 54, 3) := by decide +kernel
theorem dX7_readAll_36 : decode cX7_readAll 36 = .ok (.aload_n 0, 1) := by decide +kernel
theorem dX7_readAll_37 : decode cX7_readAll 37 = .ok (.aload_n 1, 1) := by decide +kernel
theorem dX7_readAll_38 : decode cX7_readAll 38 = .ok (.aload_n 2, 1) := by decide +kernel
theorem dX7_readAll_39 : decode cX7_readAll 39 = .ok (.iload_n 3, 1) := by decide +kernel
theorem dX7_readAll_40 : decode cX7_readAll 40 = .ok (.invokevirtual 61, 3) := by decide +kernel
theorem dX7_readAll_43 : decode cX7_readAll 43 = .ok (.ifCond .ne 5, 3) := by decide +kernel
theorem dX7_readAll_46 : decode cX7_readAll 46 = .ok (.iconst 0, 1) := by decide +kernel
theorem dX7_readAll_47 : decode cX7_readAll 47 = .ok (.ireturn, 1) := by decide +kernel
theorem dX7_readAll_48 : decode cX7_readAll 48 = .ok (.aload_n 0, 1) := by decide +kernel
theorem dX7_readAll_49 : decode cX7_readAll 49 = .ok (.bipush 15, 2) := by decide +kernel
theorem dX7_readAll_51 : decode cX7_readAll 51 = .ok (.iconst 0, 1) := by decide +kernel
theorem dX7_readAll_52 : decode cX7_readAll 52 = .ok (.iconst 0, 1) := by decide +kernel
theorem dX7_readAll_53 : decode cX7_readAll 53 = .ok (.invokevirtual 57, 3) := by decide +kernel
theorem dX7_readAll_56 : decode cX7_readAll 56 = .ok (.iinc 4 1, 3) := by decide +kernel
theorem dX7_readAll_59 : decode cX7_readAll 59 = .ok (.goto (-44), 3) := by decide +kernel
theorem dX7_readAll_62 : decode cX7_readAll 62 = .ok (.iconst 1, 1) := by decide +kernel
theorem dX7_readAll_63 : decode cX7_readAll 63 = .ok (.ireturn, 1) := by decide +kernel
theorem dX7_readOne_0 : decode cX7_readOne 0 = .ok (.aload_n 1, 1) := by decide +kernel
theorem dX7_readOne_1 : decode cX7_readOne 1 = .ok (.getfield 51, 3) := by decide +kernel
theorem dX7_readOne_4 : decode cX7_readOne 4 = .ok (.istore 4, 2) := by decide +kernel
theorem dX7_readOne_6 : decode cX7_readOne 6 = .ok (.aload_n 1, 1) := by decide +kernel
theorem dX7_readOne_7 : decode cX7_readOne 7 = .ok (.getfield 64, 3) := by decide +kernel
theorem dX7_readOne_10 : decode cX7_readOne 10 = .ok (.bipush 40, 2) := by decide +kernel
theorem dX7_readOne_12 : decode cX7_readOne 12 = .ok (.if_icmp .ne 7, 3) := by decide +kernel
theorem dX7_readOne_15 : decode cX7_readOne 15 = .ok (.iconst 1, 1) := by decide +kernel
theorem dX7_readOne_16 : decode cX7_readOne 16 = .ok (.goto 4, 3) := by decide +kernel
theorem dX7_readOne_19 : decode cX7_readOne 19 = .ok (.iconst 0, 1) := by decide +kernel
theorem dX7_readOne_20 : decode cX7_readOne 20 = .ok (.istore 5, 2) := by decide +kernel
theorem dX7_readOne_22 : decode cX7_readOne 22 = .ok (.iload 5, 2) := by decide +kernel
theorem dX7_readOne_24 : decode cX7_readOne 24 = .ok (.ifCond .ne 23, 3) := by decide +kernel
theorem dX7_readOne_27 : decode cX7_readOne 27 = .ok (.iload 4, 2) := by decide +kernel
theorem dX7_readOne_29 : decode cX7_readOne 29 = .ok (.bipush 16, 2) := by decide +kernel
theorem dX7_readOne_31 : decode cX7_readOne 31 = .ok (.if_icmp .lt 10, 3) := by decide +kernel
theorem dX7_readOne_34 : decode cX7_readOne 34 = .ok (.iload 4, 2) := by decide +kernel
theorem dX7_readOne_36 : decode cX7_readOne 36 = .ok (.bipush 23, 2) := by decide +kernel
theorem dX7_readOne_38 : decode cX7_readOne 38 = .ok (.if_icmp .le 9, 3) := by decide +kernel
theorem dX7_readOne_41 : decode cX7_readOne 41 = .ok (.aload_n 1, 1) := by decide +kernel
theorem dX7_readOne_42 : decode cX7_readOne 42 = .ok (.iconst 1, 1) := by decide +kernel
theorem dX7_readOne_43 : decode cX7_readOne 43 = .ok (.invokevirtual 44, 3) := by decide +kernel
theorem dX7_readOne_46 : decode cX7_readOne 46 = .ok (.ireturn, 1) := by decide +kernel
theorem dX7_readOne_47 : decode cX7_readOne 47 = .ok (.aload_n 0, 1) := by decide +kernel
theorem dX7_readOne_48 : decode cX7_readOne 48 = .ok (.getfield 19, 3) := by decide +kernel
theorem dX7_readOne_51 : decode cX7_readOne 51 = .ok (.bipush 20, 2) := by decide +kernel
theorem dX7_readOne_53 : decode cX7_readOne 53 = .ok (.if_icmp .ge 9, 3) := by decide +kernel
theorem dX7_readOne_56 : decode cX7_readOne 56 = .ok (.iload_n 3, 1) := by decide +kernel
theorem dX7_readOne_57 : decode cX7_readOne 57 = .ok (.bipush 8, 2) := by decide +kernel
theorem dX7_readOne_59 : decode cX7_readOne 59 = .ok (.if_icmp .le 9, 3) := by decide +kernel
theorem dX7_readOne_62 : decode cX7_readOne 62 = .ok (.aload_n 1, 1) := by decide +kernel
theorem dX7_readOne_63 : decode cX7_readOne 63 = .ok (.iconst 4, 1) := by decide +kernel
theorem dX7_readOne_64 : decode cX7_readOne 64 = .ok (.invokevirtual 44, 3) := by decide +kernel
theorem dX7_readOne_67 : decode cX7_readOne 67 = .ok (.ireturn, 1) := by decide +kernel
theorem dX7_readOne_68 : decode cX7_readOne 68 = .ok (.aload_n 0, 1) := by decide +kernel
theorem dX7_readOne_69 : decode cX7_readOne 69 = .ok (.dup, 1) := by decide +kernel
theorem dX7_readOne_70 : decode cX7_readOne 70 = .ok (.getfield 19, 3) := by decide +kernel
theorem dX7_readOne_73 : decode cX7_readOne 73 = .ok (.iconst 1, 1) := by decide +kernel
theorem dX7_readOne_74 : decode cX7_readOne 74 = .ok (.iadd, 1) := by decide +kernel
theorem dX7_readOne_75 : decode cX7_readOne 75 = .ok (.putfield 19, 3) := by decide +kernel
theorem dX7_readOne_78 : decode cX7_readOne 78 = .ok (.aload_n 1, 1) := by decide +kernel
theorem dX7_readOne_79 : decode cX7_readOne 79 = .ok (.invokevirtual 54, 3) := by decide +kernel
theorem dX7_readOne_82 : decode cX7_readOne 82 = .ok (.iload 5, 2) := by decide +kernel
theorem dX7_readOne_84 : decode cX7_readOne 84 = .ok (.ifCond .eq 30, 3) := by decide +kernel
theorem dX7_readOne_87 : decode cX7_readOne 87 = .ok (.aload_n 0, 1) := by decide +kernel
theorem dX7_readOne_88 : decode cX7_readOne 88 = .ok (.aload_n 1, 1) := by decide +kernel
theorem dX7_readOne_89 : decode cX7_readOne 89 = .ok (.aload_n 2, 1) := by decide +kernel
theorem dX7_readOne_90 : decode cX7_readOne 90 = .ok (.iload_n 3, 1) := by decide +kernel
theorem dX7_readOne_91 : decode cX7_readOne 91 = .ok (.iconst 1, 1) := by decide +kernel
theorem dX7_readOne_92 : decode cX7_readOne 92 = .ok (.iadd, 1) := by decide +kernel
theorem dX7_readOne_93 : decode cX7_readOne 93 = .ok (.invokevirtual 31, 3) := by decide +kernel
theorem dX7_readOne_96 : decode cX7_readOne 96 = .ok (.ifCond .eq 16, 3) := by decide +kernel
theorem dX7_readOne_99 : decode cX7_readOne 99 = .ok (.aload_n 1, 1) := by decide +kernel
theorem dX7_readOne_100 : decode cX7_readOne 100 = .ok (.bipush 41, 2) := by decide +kernel
theorem dX7_readOne_102 : decode cX7_readOne 102 = .ok (.invokevirtual 67, 3) := by decide +kernel
theorem dX7_readOne_105 : decode cX7_readOne 105 = .ok (.ifCond .eq 7, 3) := by decide +kernel
theorem dX7_readOne_108 : decode cX7_readOne 108 = .ok (.iconst 1, 1) := by decide +kernel
theorem dX7_readOne_109 : decode cX7_readOne 109 = .ok (.goto 4, 3) := by decide +kernel
theorem dX7_readOne_112 : decode cX7_readOne 112 = .ok (.iconst 0, 1) := by decide +kernel
theorem dX7_readOne_113 : decode cX7_readOne 113 = .ok (.ireturn, 1) := by decide +kernel
theorem dX7_readOne_114 : decode cX7_readOne 114 = .ok (.iload 4, 2) := by decide +kernel
theorem dX7_readOne_116 : decode cX7_readOne 116 = .ok (.bipush 16, 2) := by decide +kernel
theorem dX7_readOne_118 : decode cX7_readOne 118 = .ok (.if_icmp .ne 15, 3) := by decide +kernel
theorem dX7_readOne_121 : decode cX7_readOne 121 = .ok (.aload_n 0, 1) := by decide +kernel
theorem dX7_readOne_122 : decode cX7_readOne 122 = .ok (.aload_n 1, 1) := by decide +kernel
theorem dX7_readOne_123 : decode cX7_readOne 123 = .ok (.aload_n 2, 1) := by decide +kernel
theorem dX7_readOne_124 : decode cX7_readOne 124 = .ok (.iload_n 3, 1) := by decide +kernel
theorem dX7_readOne_125 : decode cX7_readOne 125 = .ok (.iconst 1, 1) := by decide +kernel
theorem dX7_readOne_126 : decode cX7_readOne 126 = .ok (.iadd, 1) := by decide +kernel
theorem dX7_readOne_127 : decode cX7_readOne 127 = .ok (.invokevirtual 70, 3) := by decide +kernel
theorem dX7_readOne_130 : decode cX7_readOne 130 = .ok (.goto 11, 3) := by decide +kernel
theorem dX7_readOne_133 : decode cX7_readOne 133 = .ok (.aload_n 0, 1) := by decide +kernel
theorem dX7_readOne_134 : decode cX7_readOne 134 = .ok (.aload_n 1, 1) := by decide +kernel
theorem dX7_readOne_135 : decode cX7_readOne 135 = .ok (.aload_n 2, 1) := by decide +kernel
theorem dX7_readOne_136 : decode cX7_readOne 136 = .ok (.iload 4, 2) := by decide +kernel
theorem dX7_readOne_138 : decode cX7_readOne 138 = .ok (.invokevirtual 73, 3) := by decide +kernel
theorem dX7_readOne_141 : decode cX7_readOne 141 = .ok (.ireturn, 1) := by decide +kernel
theorem dX7_readDenied_0 : decode cX7_readDenied 0 = .ok (.aload_n 0, 1) := by decide +kernel
theorem dX7_readDenied_1 : decode cX7_readDenied 1 = .ok (.aload_n 1, 1) := by decide +kernel
theorem dX7_readDenied_2 : decode cX7_readDenied 2 = .ok (.aload_n 2, 1) := by decide +kernel
theorem dX7_readDenied_3 : decode cX7_readDenied 3 = .ok (.iload_n 3, 1) := by decide +kernel
theorem dX7_readDenied_4 : decode cX7_readDenied 4 = .ok (.invokevirtual 61, 3) := by decide +kernel
theorem dX7_readDenied_7 : decode cX7_readDenied 7 = .ok (.ifCond .ne 5, 3) := by decide +kernel
theorem dX7_readDenied_10 : decode cX7_readDenied 10 = .ok (.iconst 0, 1) := by decide +kernel
theorem dX7_readDenied_11 : decode cX7_readDenied 11 = .ok (.ireturn, 1) := by decide +kernel
theorem dX7_readDenied_12 : decode cX7_readDenied 12 = .ok (.aload_n 0, 1) := by decide +kernel
theorem dX7_readDenied_13 : decode cX7_readDenied 13 = .ok (.bipush 16, 2) := by decide +kernel
theorem dX7_readDenied_15 : decode cX7_readDenied 15 = .ok (.iconst 0, 1) := by decide +kernel
theorem dX7_readDenied_16 : decode cX7_readDenied 16 = .ok (.iconst 0, 1) := by decide +kernel
theorem dX7_readDenied_17 : decode cX7_readDenied 17 = .ok (.invokevirtual 57, 3) := by decide +kernel
theorem dX7_readDenied_20 : decode cX7_readDenied 20 = .ok (.iconst 1, 1) := by decide +kernel
theorem dX7_readDenied_21 : decode cX7_readDenied 21 = .ok (.ireturn, 1) := by decide +kernel
theorem dX7_readPlainOne_0 : decode cX7_readPlainOne 0 = .ok (.iload_n 3, 1) := by decide +kernel
theorem dX7_readPlainOne_1 : decode cX7_readPlainOne 1 = .ok (.bipush 17, 2) := by decide +kernel
theorem dX7_readPlainOne_3 : decode cX7_readPlainOne 3 = .ok (.if_icmp .ne 12, 3) := by decide +kernel
theorem dX7_readPlainOne_6 : decode cX7_readPlainOne 6 = .ok (.aload_n 0, 1) := by decide +kernel
theorem dX7_readPlainOne_7 : decode cX7_readPlainOne 7 = .ok (.iload_n 3, 1) := by decide +kernel
theorem dX7_readPlainOne_8 : decode cX7_readPlainOne 8 = .ok (.iconst 0, 1) := by decide +kernel
theorem dX7_readPlainOne_9 : decode cX7_readPlainOne 9 = .ok (.iconst 0, 1) := by decide +kernel
theorem dX7_readPlainOne_10 : decode cX7_readPlainOne 10 = .ok (.invokevirtual 57, 3) := by decide +kernel
theorem dX7_readPlainOne_13 : decode cX7_readPlainOne 13 = .ok (.iconst 1, 1) := by decide +kernel
theorem dX7_readPlainOne_14 : decode cX7_readPlainOne 14 = .ok (.ireturn, 1) := by decide +kernel
theorem dX7_readPlainOne_15 : decode cX7_readPlainOne 15 = .ok (.iload_n 3, 1) := by decide +kernel
theorem dX7_readPlainOne_16 : decode cX7_readPlainOne 16 = .ok (.bipush 18, 2) := by decide +kernel
theorem dX7_readPlainOne_18 : decode cX7_readPlainOne 18 = .ok (.if_icmp .eq 9, 3) := by decide +kernel
theorem dX7_readPlainOne_21 : decode cX7_readPlainOne 21 = .ok (.iload_n 3, 1) := by decide +kernel
theorem dX7_readPlainOne_22 : decode cX7_readPlainOne 22 = .ok (.bipush 19, 2) := by decide +kernel
theorem dX7_readPlainOne_24 : decode cX7_readPlainOne 24 = .ok (.if_icmp .ne 32, 3) := by decide +kernel
theorem dX7_readPlainOne_27 : decode cX7_readPlainOne 27 = .ok (.aload_n 1, 1) := by decide +kernel
theorem dX7_readPlainOne_28 : decode cX7_readPlainOne 28 = .ok (.aload_n 2, 1) := by decide +kernel
theorem dX7_readPlainOne_29 : decode cX7_readPlainOne 29 = .ok (.invokevirtual 76, 3) := by decide +kernel
theorem dX7_readPlainOne_32 : decode cX7_readPlainOne 32 = .ok (.istore 4, 2) := by decide +kernel
theorem dX7_readPlainOne_34 : decode cX7_readPlainOne 34 = .ok (.iload 4, 2) := by decide +kernel
theorem dX7_readPlainOne_36 : decode cX7_readPlainOne 36 = .ok (.iconst (-1), 1) := by decide +kernel
theorem dX7_readPlainOne_37 : decode cX7_readPlainOne 37 = .ok (.if_icmp .ne 5, 3) := by decide +kernel
theorem dX7_readPlainOne_40 : decode cX7_readPlainOne 40 = .ok (.iconst 0, 1) := by decide +kernel
theorem dX7_readPlainOne_41 : decode cX7_readPlainOne 41 = .ok (.ireturn, 1) := by decide +kernel
theorem dX7_readPlainOne_42 : decode cX7_readPlainOne 42 = .ok (.aload_n 0, 1) := by decide +kernel
theorem dX7_readPlainOne_43 : decode cX7_readPlainOne 43 = .ok (.iload_n 3, 1) := by decide +kernel
theorem dX7_readPlainOne_44 : decode cX7_readPlainOne 44 = .ok (.iconst 0, 1) := by decide +kernel
theorem dX7_readPlainOne_45 : decode cX7_readPlainOne 45 = .ok (.iload 4, 2) := by decide +kernel
theorem dX7_readPlainOne_47 : decode cX7_readPlainOne 47 = .ok (.invokevirtual 57, 3) := by decide +kernel
theorem dX7_readPlainOne_50 : decode cX7_readPlainOne 50 = .ok (.aload_n 1, 1) := by decide +kernel
theorem dX7_readPlainOne_51 : decode cX7_readPlainOne 51 = .ok (.invokevirtual 54, 3) := by decide +kernel
theorem dX7_readPlainOne_54 : decode cX7_readPlainOne 54 = .ok (.iconst 1, 1) := by decide +kernel
theorem dX7_readPlainOne_55 : decode cX7_readPlainOne 55 = .ok (.ireturn, 1) := by decide +kernel
theorem dX7_readPlainOne_56 : decode cX7_readPlainOne 56 = .ok (.aload_n 1, 1) := by decide +kernel
theorem dX7_readPlainOne_57 : decode cX7_readPlainOne 57 = .ok (.getfield 64, 3) := by decide +kernel
theorem dX7_readPlainOne_60 : decode cX7_readPlainOne 60 = .ok (.istore 4, 2) := by decide +kernel
theorem dX7_readPlainOne_62 : decode cX7_readPlainOne 62 = .ok (.iload 4, 2) := by decide +kernel
theorem dX7_readPlainOne_64 : decode cX7_readPlainOne 64 = .ok (.bipush 60, 2) := by decide +kernel
theorem dX7_readPlainOne_66 : decode cX7_readPlainOne 66 = .ok (.if_icmp .lt 10, 3) := by decide +kernel
theorem dX7_readPlainOne_69 : decode cX7_readPlainOne 69 = .ok (.iload 4, 2) := by decide +kernel
theorem dX7_readPlainOne_71 : decode cX7_readPlainOne 71 = .ok (.bipush 62, 2) := by decide +kernel
theorem dX7_readPlainOne_73 : decode cX7_readPlainOne 73 = .ok (.if_icmp .le 9, 3) := by decide +kernel
theorem dX7_readPlainOne_76 : decode cX7_readPlainOne 76 = .ok (.aload_n 1, 1) := by decide +kernel
theorem dX7_readPlainOne_77 : decode cX7_readPlainOne 77 = .ok (.iconst 1, 1) := by decide +kernel
theorem dX7_readPlainOne_78 : decode cX7_readPlainOne 78 = .ok (.invokevirtual 44, 3) := by decide +kernel
theorem dX7_readPlainOne_81 : decode cX7_readPlainOne 81 = .ok (.ireturn, 1) := by decide +kernel
theorem dX7_readPlainOne_82 : decode cX7_readPlainOne 82 = .ok (.aload_n 1, 1) := by decide +kernel
theorem dX7_readPlainOne_83 : decode cX7_readPlainOne 83 = .ok (.invokevirtual 54, 3) := by decide +kernel
theorem dX7_readPlainOne_86 : decode cX7_readPlainOne 86 = .ok (.aload_n 1, 1) := by decide +kernel
theorem dX7_readPlainOne_87 : decode cX7_readPlainOne 87 = .ok (.iconst 0, 1) := by decide +kernel
theorem dX7_readPlainOne_88 : decode cX7_readPlainOne 88 = .ok (.sipush 999, 3) := by decide +kernel
theorem dX7_readPlainOne_91 : decode cX7_readPlainOne 91 = .ok (.invokevirtual 80, 3) := by decide +kernel
theorem dX7_readPlainOne_94 : decode cX7_readPlainOne 94 = .ok (.istore 5, 2) := by decide +kernel
theorem dX7_readPlainOne_96 : decode cX7_readPlainOne 96 = .ok (.iload 5, 2) := by decide +kernel
theorem dX7_readPlainOne_98 : decode cX7_readPlainOne 98 = .ok (.iconst (-1), 1) := by decide +kernel
theorem dX7_readPlainOne_99 : decode cX7_readPlainOne 99 = .ok (.if_icmp .ne 5, 3) := by decide +kernel
theorem dX7_readPlainOne_102 : decode cX7_readPlainOne 102 = .ok (.iconst 0, 1) := by decide +kernel
theorem dX7_readPlainOne_103 : decode cX7_readPlainOne 103 = .ok (.ireturn, 1) := by decide +kernel
theorem dX7_readPlainOne_104 : decode cX7_readPlainOne 104 = .ok (.aload_n 1, 1) := by decide +kernel
theorem dX7_readPlainOne_105 : decode cX7_readPlainOne 105 = .ok (.invokevirtual 54, 3) := by decide +kernel
theorem dX7_readPlainOne_108 : decode cX7_readPlainOne 108 = .ok (.aload_n 0, 1) := by decide +kernel
theorem dX7_readPlainOne_109 : decode cX7_readPlainOne 109 = .ok (.iload_n 3, 1) := by decide +kernel
theorem dX7_readPlainOne_110 : decode cX7_readPlainOne 110 = .ok (.iload 4, 2) := by decide +kernel
theorem dX7_readPlainOne_112 : decode cX7_readPlainOne 112 = .ok (.iload 5, 2) := by decide +kernel
theorem dX7_readPlainOne_114 : decode cX7_readPlainOne 114 = .ok (.invokevirtual 57, 3) := by decide +kernel
theorem dX7_readPlainOne_117 : decode cX7_readPlainOne 117 = .ok (.iconst 1, 1) := by decide +kernel
theorem dX7_readPlainOne_118 : decode cX7_readPlainOne 118 = .ok (.ireturn, 1) := by decide +kernel
theorem dX7_add_0 : decode cX7_add 0 = .ok (.aload_n 0, 1) := by decide +kernel
theorem dX7_add_1 : decode cX7_add 1 = .ok (.getfield 15, 3) := by decide +kernel
theorem dX7_add_4 : decode cX7_add 4 = .ok (.aload_n 0, 1) := by decide +kernel
theorem dX7_add_5 : decode cX7_add 5 = .ok (.getfield 9, 3) := by decide +kernel
theorem dX7_add_8 : decode cX7_add 8 = .ok (.arraylength, 1) := by decide +kernel
theorem dX7_add_9 : decode cX7_add 9 = .ok (.if_icmp .ge 33, 3) := by decide +kernel
theorem dX7_add_12 : decode cX7_add 12 = .ok (.aload_n 0, 1) := by decide +kernel
theorem dX7_add_13 : decode cX7_add 13 = .ok (.getfield 9, 3) := by decide +kernel
theorem dX7_add_16 : decode cX7_add 16 = .ok (.aload_n 0, 1) := by decide +kernel
theorem dX7_add_17 : decode cX7_add 17 = .ok (.getfield 15, 3) := by decide +kernel
theorem dX7_add_20 : decode cX7_add 20 = .ok (.iload_n 1, 1) := by decide +kernel
theorem dX7_add_21 : decode cX7_add 21 = .ok (.iload_n 2, 1) := by decide +kernel
theorem dX7_add_22 : decode cX7_add 22 = .ok (.bipush 8, 2) := by decide +kernel
theorem dX7_add_24 : decode cX7_add 24 = .ok (.ishl, 1) := by decide +kernel
theorem dX7_add_25 : decode cX7_add 25 = .ok (.ior, 1) := by decide +kernel
theorem dX7_add_26 : decode cX7_add 26 = .ok (.iload_n 3, 1) := by decide +kernel
theorem dX7_add_27 : decode cX7_add 27 = .ok (.bipush 16, 2) := by decide +kernel
theorem dX7_add_29 : decode cX7_add 29 = .ok (.ishl, 1) := by decide +kernel
theorem dX7_add_30 : decode cX7_add 30 = .ok (.ior, 1) := by decide +kernel
theorem dX7_add_31 : decode cX7_add 31 = .ok (.iastore, 1) := by decide +kernel
theorem dX7_add_32 : decode cX7_add 32 = .ok (.aload_n 0, 1) := by decide +kernel
theorem dX7_add_33 : decode cX7_add 33 = .ok (.dup, 1) := by decide +kernel
theorem dX7_add_34 : decode cX7_add 34 = .ok (.getfield 15, 3) := by decide +kernel
theorem dX7_add_37 : decode cX7_add 37 = .ok (.iconst 1, 1) := by decide +kernel
theorem dX7_add_38 : decode cX7_add 38 = .ok (.iadd, 1) := by decide +kernel
theorem dX7_add_39 : decode cX7_add 39 = .ok (.putfield 15, 3) := by decide +kernel
theorem dX7_add_42 : decode cX7_add 42 = .ok (.return_, 1) := by decide +kernel
theorem dX7_holdsOf_0 : decode cX7_holdsOf 0 = .ok (.iconst 0, 1) := by decide +kernel
theorem dX7_holdsOf_1 : decode cX7_holdsOf 1 = .ok (.istore_n 3, 1) := by decide +kernel
theorem dX7_holdsOf_2 : decode cX7_holdsOf 2 = .ok (.iconst 0, 1) := by decide +kernel
theorem dX7_holdsOf_3 : decode cX7_holdsOf 3 = .ok (.istore 4, 2) := by decide +kernel
theorem dX7_holdsOf_5 : decode cX7_holdsOf 5 = .ok (.iload 4, 2) := by decide +kernel
theorem dX7_holdsOf_7 : decode cX7_holdsOf 7 = .ok (.aload_n 0, 1) := by decide +kernel
theorem dX7_holdsOf_8 : decode cX7_holdsOf 8 = .ok (.getfield 15, 3) := by decide +kernel
theorem dX7_holdsOf_11 : decode cX7_holdsOf 11 = .ok (.if_icmp .ge 109, 3) := by decide +kernel
theorem dX7_holdsOf_14 : decode cX7_holdsOf 14 = .ok (.aload_n 0, 1) := by decide +kernel
theorem dX7_holdsOf_15 : decode cX7_holdsOf 15 = .ok (.getfield 9, 3) := by decide +kernel
theorem dX7_holdsOf_18 : decode cX7_holdsOf 18 = .ok (.iload 4, 2) := by decide +kernel
theorem dX7_holdsOf_20 : decode cX7_holdsOf 20 = .ok (.iaload, 1) := by decide +kernel
theorem dX7_holdsOf_21 : decode cX7_holdsOf 21 = .ok (.sipush 255, 3) := by decide +kernel
theorem dX7_holdsOf_24 : decode cX7_holdsOf 24 = .ok (.iand, 1) := by decide +kernel
theorem dX7_holdsOf_25 : decode cX7_holdsOf 25 = .ok (.istore 5, 2) := by decide +kernel
theorem dX7_holdsOf_27 : decode cX7_holdsOf 27 = .ok (.iload_n 3, 1) := by decide +kernel
theorem dX7_holdsOf_28 : decode cX7_holdsOf 28 = .ok (.iconst 1, 1) := by decide +kernel
theorem dX7_holdsOf_29 : decode cX7_holdsOf 29 = .ok (.iand, 1) := by decide +kernel
theorem dX7_holdsOf_30 : decode cX7_holdsOf 30 = .ok (.istore 6, 2) := by decide +kernel
theorem dX7_holdsOf_32 : decode cX7_holdsOf 32 = .ok (.iload 5, 2) := by decide +kernel
theorem dX7_holdsOf_34 : decode cX7_holdsOf 34 = .ok (.bipush 16, 2) := by decide +kernel
theorem dX7_holdsOf_36 : decode cX7_holdsOf 36 = .ok (.if_icmp .ne 10, 3) := by decide +kernel
theorem dX7_holdsOf_39 : decode cX7_holdsOf 39 = .ok (.iload_n 3, 1) := by decide +kernel
theorem dX7_holdsOf_40 : decode cX7_holdsOf 40 = .ok (.iconst 1, 1) := by decide +kernel
theorem dX7_holdsOf_41 : decode cX7_holdsOf 41 = .ok (.ixor, 1) := by decide +kernel
theorem dX7_holdsOf_42 : decode cX7_holdsOf 42 = .ok (.istore_n 3, 1) := by decide +kernel
theorem dX7_holdsOf_43 : decode cX7_holdsOf 43 = .ok (.goto 71, 3) := by decide +kernel
theorem dX7_holdsOf_46 : decode cX7_holdsOf 46 = .ok (.iload 5, 2) := by decide +kernel
theorem dX7_holdsOf_48 : decode cX7_holdsOf 48 = .ok (.bipush 14, 2) := by decide +kernel
theorem dX7_holdsOf_50 : decode cX7_holdsOf 50 = .ok (.if_icmp .ne 13, 3) := by decide +kernel
theorem dX7_holdsOf_53 : decode cX7_holdsOf 53 = .ok (.iload_n 3, 1) := by decide +kernel
theorem dX7_holdsOf_54 : decode cX7_holdsOf 54 = .ok (.iconst 1, 1) := by decide +kernel
theorem dX7_holdsOf_55 : decode cX7_holdsOf 55 = .ok (.iushr, 1) := by decide +kernel
theorem dX7_holdsOf_56 : decode cX7_holdsOf 56 = .ok (.iload 6, 2) := by decide +kernel
theorem dX7_holdsOf_58 : decode cX7_holdsOf 58 = .ok (.ior, 1) := by decide +kernel
theorem dX7_holdsOf_59 : decode cX7_holdsOf 59 = .ok (.istore_n 3, 1) := by decide +kernel
theorem dX7_holdsOf_60 : decode cX7_holdsOf 60 = .ok (.goto 54, 3) := by decide +kernel
theorem dX7_holdsOf_63 : decode cX7_holdsOf 63 = .ok (.iload 5, 2) := by decide +kernel
theorem dX7_holdsOf_65 : decode cX7_holdsOf 65 = .ok (.bipush 15, 2) := by decide +kernel
theorem dX7_holdsOf_67 : decode cX7_holdsOf 67 = .ok (.if_icmp .ne 22, 3) := by decide +kernel
theorem dX7_holdsOf_70 : decode cX7_holdsOf 70 = .ok (.iload_n 3, 1) := by decide +kernel
theorem dX7_holdsOf_71 : decode cX7_holdsOf 71 = .ok (.iconst 1, 1) := by decide +kernel
theorem dX7_holdsOf_72 : decode cX7_holdsOf 72 = .ok (.iushr, 1) := by decide +kernel
theorem dX7_holdsOf_73 : decode cX7_holdsOf 73 = .ok (.iload 6, 2) := by decide +kernel
theorem dX7_holdsOf_75 : decode cX7_holdsOf 75 = .ok (.ifCond .ne 8, 3) := by decide +kernel
theorem dX7_holdsOf_78 : decode cX7_holdsOf 78 = .ok (.bipush (-2), 2) := by decide +kernel
theorem dX7_holdsOf_80 : decode cX7_holdsOf 80 = .ok (.goto 4, 3) := by decide +kernel
theorem dX7_holdsOf_83 : decode cX7_holdsOf 83 = .ok (.iconst (-1), 1) := by decide +kernel
theorem dX7_holdsOf_84 : decode cX7_holdsOf 84 = .ok (.iand, 1) := by decide +kernel
theorem dX7_holdsOf_85 : decode cX7_holdsOf 85 = .ok (.istore_n 3, 1) := by decide +kernel
theorem dX7_holdsOf_86 : decode cX7_holdsOf 86 = .ok (.goto 28, 3) := by decide +kernel
theorem dX7_holdsOf_89 : decode cX7_holdsOf 89 = .ok (.iload_n 3, 1) := by decide +kernel
theorem dX7_holdsOf_90 : decode cX7_holdsOf 90 = .ok (.iconst 1, 1) := by decide +kernel
theorem dX7_holdsOf_91 : decode cX7_holdsOf 91 = .ok (.ishl, 1) := by decide +kernel
theorem dX7_holdsOf_92 : decode cX7_holdsOf 92 = .ok (.aload_n 1, 1) := by decide +kernel
theorem dX7_holdsOf_93 : decode cX7_holdsOf 93 = .ok (.iload_n 2, 1) := by decide +kernel
theorem dX7_holdsOf_94 : decode cX7_holdsOf 94 = .ok (.aload_n 0, 1) := by decide +kernel
theorem dX7_holdsOf_95 : decode cX7_holdsOf 95 = .ok (.getfield 9, 3) := by decide +kernel
theorem dX7_holdsOf_98 : decode cX7_holdsOf 98 = .ok (.iload 4, 2) := by decide +kernel
theorem dX7_holdsOf_100 : decode cX7_holdsOf 100 = .ok (.iaload, 1) := by decide +kernel
theorem dX7_holdsOf_101 : decode cX7_holdsOf 101 = .ok (.invokestatic 84, 3) := by decide +kernel
theorem dX7_holdsOf_104 : decode cX7_holdsOf 104 = .ok (.ifCond .eq 7, 3) := by decide +kernel
theorem dX7_holdsOf_107 : decode cX7_holdsOf 107 = .ok (.iconst 1, 1) := by decide +kernel
theorem dX7_holdsOf_108 : decode cX7_holdsOf 108 = .ok (.goto 4, 3) := by decide +kernel
theorem dX7_holdsOf_111 : decode cX7_holdsOf 111 = .ok (.iconst 0, 1) := by decide +kernel
theorem dX7_holdsOf_112 : decode cX7_holdsOf 112 = .ok (.ior, 1) := by decide +kernel
theorem dX7_holdsOf_113 : decode cX7_holdsOf 113 = .ok (.istore_n 3, 1) := by decide +kernel
theorem dX7_holdsOf_114 : decode cX7_holdsOf 114 = .ok (.iinc 4 1, 3) := by decide +kernel
theorem dX7_holdsOf_117 : decode cX7_holdsOf 117 = .ok (.goto (-112), 3) := by decide +kernel
theorem dX7_holdsOf_120 : decode cX7_holdsOf 120 = .ok (.iload_n 3, 1) := by decide +kernel
theorem dX7_holdsOf_121 : decode cX7_holdsOf 121 = .ok (.iconst 1, 1) := by decide +kernel
theorem dX7_holdsOf_122 : decode cX7_holdsOf 122 = .ok (.iand, 1) := by decide +kernel
theorem dX7_holdsOf_123 : decode cX7_holdsOf 123 = .ok (.ifCond .eq 7, 3) := by decide +kernel
theorem dX7_holdsOf_126 : decode cX7_holdsOf 126 = .ok (.iconst 1, 1) := by decide +kernel
theorem dX7_holdsOf_127 : decode cX7_holdsOf 127 = .ok (.goto 4, 3) := by decide +kernel
theorem dX7_holdsOf_130 : decode cX7_holdsOf 130 = .ok (.iconst 0, 1) := by decide +kernel
theorem dX7_holdsOf_131 : decode cX7_holdsOf 131 = .ok (.ireturn, 1) := by decide +kernel
theorem dX7_oneHolds_0 : decode cX7_oneHolds 0 = .ok (.iload_n 2, 1) := by decide +kernel
theorem dX7_oneHolds_1 : decode cX7_oneHolds 1 = .ok (.bipush 8, 2) := by decide +kernel
theorem dX7_oneHolds_3 : decode cX7_oneHolds 3 = .ok (.iushr, 1) := by decide +kernel
theorem dX7_oneHolds_4 : decode cX7_oneHolds 4 = .ok (.sipush 255, 3) := by decide +kernel
theorem dX7_oneHolds_7 : decode cX7_oneHolds 7 = .ok (.iand, 1) := by decide +kernel
theorem dX7_oneHolds_8 : decode cX7_oneHolds 8 = .ok (.istore_n 3, 1) := by decide +kernel
theorem dX7_oneHolds_9 : decode cX7_oneHolds 9 = .ok (.iload_n 2, 1) := by decide +kernel
theorem dX7_oneHolds_10 : decode cX7_oneHolds 10 = .ok (.bipush 16, 2) := by decide +kernel
theorem dX7_oneHolds_12 : decode cX7_oneHolds 12 = .ok (.iushr, 1) := by decide +kernel
theorem dX7_oneHolds_13 : decode cX7_oneHolds 13 = .ok (.istore 4, 2) := by decide +kernel
theorem dX7_oneHolds_15 : decode cX7_oneHolds 15 = .ok (.iload_n 2, 1) := by decide +kernel
theorem dX7_oneHolds_16 : decode cX7_oneHolds 16 = .ok (.sipush 255, 3) := by decide +kernel
theorem dX7_oneHolds_19 : decode cX7_oneHolds 19 = .ok (.iand, 1) := by decide +kernel
theorem dX7_oneHolds_20 : decode cX7_oneHolds 20 = .ok (.tableswitch 143 17 22 #[40, 57, 89, 100, 116, 131], 40) := by decide +kernel
theorem dX7_oneHolds_60 : decode cX7_oneHolds 60 = .ok (.aload_n 0, 1) := by decide +kernel
theorem dX7_oneHolds_61 : decode cX7_oneHolds 61 = .ok (.invokevirtual 88, 3) := by decide +kernel
theorem dX7_oneHolds_64 : decode cX7_oneHolds 64 = .ok (.iload_n 1, 1) := by decide +kernel
theorem dX7_oneHolds_65 : decode cX7_oneHolds 65 = .ok (.iushr, 1) := by decide +kernel
theorem dX7_oneHolds_66 : decode cX7_oneHolds 66 = .ok (.iconst 1, 1) := by decide +kernel
theorem dX7_oneHolds_67 : decode cX7_oneHolds 67 = .ok (.iand, 1) := by decide +kernel
theorem dX7_oneHolds_68 : decode cX7_oneHolds 68 = .ok (.ifCond .eq 7, 3) := by decide +kernel
theorem dX7_oneHolds_71 : decode cX7_oneHolds 71 = .ok (.iconst 1, 1) := by decide +kernel
theorem dX7_oneHolds_72 : decode cX7_oneHolds 72 = .ok (.goto 4, 3) := by decide +kernel
theorem dX7_oneHolds_75 : decode cX7_oneHolds 75 = .ok (.iconst 0, 1) := by decide +kernel
theorem dX7_oneHolds_76 : decode cX7_oneHolds 76 = .ok (.ireturn, 1) := by decide +kernel
theorem dX7_oneHolds_77 : decode cX7_oneHolds 77 = .ok (.aload_n 0, 1) := by decide +kernel
theorem dX7_oneHolds_78 : decode cX7_oneHolds 78 = .ok (.getfield 94, 3) := by decide +kernel
theorem dX7_oneHolds_81 : decode cX7_oneHolds 81 = .ok (.iload 4, 2) := by decide +kernel
theorem dX7_oneHolds_83 : decode cX7_oneHolds 83 = .ok (.iload_n 1, 1) := by decide +kernel
theorem dX7_oneHolds_84 : decode cX7_oneHolds 84 = .ok (.invokevirtual 98, 3) := by decide +kernel
theorem dX7_oneHolds_87 : decode cX7_oneHolds 87 = .ok (.ifCond .eq 20, 3) := by decide +kernel
theorem dX7_oneHolds_90 : decode cX7_oneHolds 90 = .ok (.aload_n 0, 1) := by decide +kernel
theorem dX7_oneHolds_91 : decode cX7_oneHolds 91 = .ok (.getfield 94, 3) := by decide +kernel
theorem dX7_oneHolds_94 : decode cX7_oneHolds 94 = .ok (.iload 4, 2) := by decide +kernel
theorem dX7_oneHolds_96 : decode cX7_oneHolds 96 = .ok (.iload_n 1, 1) := by decide +kernel
theorem dX7_oneHolds_97 : decode cX7_oneHolds 97 = .ok (.invokevirtual 104, 3) := by decide +kernel
theorem dX7_oneHolds_100 : decode cX7_oneHolds 100 = .ok (.ifCond .ne 7, 3) := by decide +kernel
theorem dX7_oneHolds_103 : decode cX7_oneHolds 103 = .ok (.iconst 1, 1) := by decide +kernel
theorem dX7_oneHolds_104 : decode cX7_oneHolds 104 = .ok (.goto 4, 3) := by decide +kernel
theorem dX7_oneHolds_107 : decode cX7_oneHolds 107 = .ok (.iconst 0, 1) := by decide +kernel
theorem dX7_oneHolds_108 : decode cX7_oneHolds 108 = .ok (.ireturn, 1) := by decide +kernel
theorem dX7_oneHolds_109 : decode cX7_oneHolds 109 = .ok (.aload_n 0, 1) := by decide +kernel
theorem dX7_oneHolds_110 : decode cX7_oneHolds 110 = .ok (.getfield 94, 3) := by decide +kernel
theorem dX7_oneHolds_113 : decode cX7_oneHolds 113 = .ok (.iload 4, 2) := by decide +kernel
theorem dX7_oneHolds_115 : decode cX7_oneHolds 115 = .ok (.iload_n 1, 1) := by decide +kernel
theorem dX7_oneHolds_116 : decode cX7_oneHolds 116 = .ok (.invokevirtual 104, 3) := by decide +kernel
theorem dX7_oneHolds_119 : decode cX7_oneHolds 119 = .ok (.ireturn, 1) := by decide +kernel
theorem dX7_oneHolds_120 : decode cX7_oneHolds 120 = .ok (.aload_n 0, 1) := by decide +kernel
theorem dX7_oneHolds_121 : decode cX7_oneHolds 121 = .ok (.getfield 107, 3) := by decide +kernel
theorem dX7_oneHolds_124 : decode cX7_oneHolds 124 = .ok (.getfield 111, 3) := by decide +kernel
theorem dX7_oneHolds_127 : decode cX7_oneHolds 127 = .ok (.iload_n 1, 1) := by decide +kernel
theorem dX7_oneHolds_128 : decode cX7_oneHolds 128 = .ok (.iaload, 1) := by decide +kernel
theorem dX7_oneHolds_129 : decode cX7_oneHolds 129 = .ok (.iload_n 3, 1) := by decide +kernel
theorem dX7_oneHolds_130 : decode cX7_oneHolds 130 = .ok (.iload 4, 2) := by decide +kernel
theorem dX7_oneHolds_132 : decode cX7_oneHolds 132 = .ok (.invokestatic 116, 3) := by decide +kernel
theorem dX7_oneHolds_135 : decode cX7_oneHolds 135 = .ok (.ireturn, 1) := by decide +kernel
theorem dX7_oneHolds_136 : decode cX7_oneHolds 136 = .ok (.aload_n 0, 1) := by decide +kernel
theorem dX7_oneHolds_137 : decode cX7_oneHolds 137 = .ok (.iload_n 1, 1) := by decide +kernel
theorem dX7_oneHolds_138 : decode cX7_oneHolds 138 = .ok (.invokevirtual 120, 3) := by decide +kernel
theorem dX7_oneHolds_141 : decode cX7_oneHolds 141 = .ok (.invokestatic 124, 3) := by decide +kernel
theorem dX7_oneHolds_144 : decode cX7_oneHolds 144 = .ok (.iload_n 3, 1) := by decide +kernel
theorem dX7_oneHolds_145 : decode cX7_oneHolds 145 = .ok (.iload 4, 2) := by decide +kernel
theorem dX7_oneHolds_147 : decode cX7_oneHolds 147 = .ok (.invokestatic 116, 3) := by decide +kernel
theorem dX7_oneHolds_150 : decode cX7_oneHolds 150 = .ok (.ireturn, 1) := by decide +kernel
theorem dX7_oneHolds_151 : decode cX7_oneHolds 151 = .ok (.aload_n 0, 1) := by decide +kernel
theorem dX7_oneHolds_152 : decode cX7_oneHolds 152 = .ok (.iload_n 1, 1) := by decide +kernel
theorem dX7_oneHolds_153 : decode cX7_oneHolds 153 = .ok (.invokevirtual 129, 3) := by decide +kernel
theorem dX7_oneHolds_156 : decode cX7_oneHolds 156 = .ok (.iload_n 3, 1) := by decide +kernel
theorem dX7_oneHolds_157 : decode cX7_oneHolds 157 = .ok (.iload 4, 2) := by decide +kernel
theorem dX7_oneHolds_159 : decode cX7_oneHolds 159 = .ok (.invokestatic 116, 3) := by decide +kernel
theorem dX7_oneHolds_162 : decode cX7_oneHolds 162 = .ok (.ireturn, 1) := by decide +kernel
theorem dX7_oneHolds_163 : decode cX7_oneHolds 163 = .ok (.iload_n 1, 1) := by decide +kernel
theorem dX7_oneHolds_164 : decode cX7_oneHolds 164 = .ok (.iload_n 3, 1) := by decide +kernel
theorem dX7_oneHolds_165 : decode cX7_oneHolds 165 = .ok (.iload 4, 2) := by decide +kernel
theorem dX7_oneHolds_167 : decode cX7_oneHolds 167 = .ok (.invokestatic 116, 3) := by decide +kernel
theorem dX7_oneHolds_170 : decode cX7_oneHolds 170 = .ok (.ireturn, 1) := by decide +kernel
theorem dX7_compares_0 : decode cX7_compares 0 = .ok (.iload_n 1, 1) := by decide +kernel
theorem dX7_compares_1 : decode cX7_compares 1 = .ok (.bipush 60, 2) := by decide +kernel
theorem dX7_compares_3 : decode cX7_compares 3 = .ok (.if_icmp .ne 14, 3) := by decide +kernel
theorem dX7_compares_6 : decode cX7_compares 6 = .ok (.iload_n 0, 1) := by decide +kernel
theorem dX7_compares_7 : decode cX7_compares 7 = .ok (.iload_n 2, 1) := by decide +kernel
theorem dX7_compares_8 : decode cX7_compares 8 = .ok (.if_icmp .ge 7, 3) := by decide +kernel
theorem dX7_compares_11 : decode cX7_compares 11 = .ok (.iconst 1, 1) := by decide +kernel
theorem dX7_compares_12 : decode cX7_compares 12 = .ok (.goto 4, 3) := by decide +kernel
theorem dX7_compares_15 : decode cX7_compares 15 = .ok (.iconst 0, 1) := by decide +kernel
theorem dX7_compares_16 : decode cX7_compares 16 = .ok (.ireturn, 1) := by decide +kernel
theorem dX7_compares_17 : decode cX7_compares 17 = .ok (.iload_n 1, 1) := by decide +kernel
theorem dX7_compares_18 : decode cX7_compares 18 = .ok (.bipush 62, 2) := by decide +kernel
theorem dX7_compares_20 : decode cX7_compares 20 = .ok (.if_icmp .ne 16, 3) := by decide +kernel
theorem dX7_compares_23 : decode cX7_compares 23 = .ok (.iload_n 0, 1) := by decide +kernel
theorem dX7_compares_24 : decode cX7_compares 24 = .ok (.iload_n 2, 1) := by decide +kernel
theorem dX7_compares_25 : decode cX7_compares 25 = .ok (.if_icmp .le 7, 3) := by decide +kernel
theorem dX7_compares_28 : decode cX7_compares 28 = .ok (.iconst 1, 1) := by decide +kernel
theorem dX7_compares_29 : decode cX7_compares 29 = .ok (.goto 17, 3) := by decide +kernel
theorem dX7_compares_32 : decode cX7_compares 32 = .ok (.iconst 0, 1) := by decide +kernel
theorem dX7_compares_33 : decode cX7_compares 33 = .ok (.goto 13, 3) := by decide +kernel
theorem dX7_compares_36 : decode cX7_compares 36 = .ok (.iload_n 0, 1) := by decide +kernel
theorem dX7_compares_37 : decode cX7_compares 37 = .ok (.iload_n 2, 1) := by decide +kernel
theorem dX7_compares_38 : decode cX7_compares 38 = .ok (.if_icmp .ne 7, 3) := by decide +kernel
theorem dX7_compares_41 : decode cX7_compares 41 = .ok (.iconst 1, 1) := by decide +kernel
theorem dX7_compares_42 : decode cX7_compares 42 = .ok (.goto 4, 3) := by decide +kernel
theorem dX7_compares_45 : decode cX7_compares 45 = .ok (.iconst 0, 1) := by decide +kernel
theorem dX7_compares_46 : decode cX7_compares 46 = .ok (.ireturn, 1) := by decide +kernel
theorem dX8_init_0 : decode cX8_init 0 = .ok (.aload_n 0, 1) := by decide +kernel
theorem dX8_init_1 : decode cX8_init 1 = .ok (.invokespecial 1, 3) := by decide +kernel
theorem dX8_init_4 : decode cX8_init 4 = .ok (.aload_n 0, 1) := by decide +kernel
theorem dX8_init_5 : decode cX8_init 5 = .ok (.new 7, 3) := by decide +kernel
theorem dX8_init_8 : decode cX8_init 8 = .ok (.dup, 1) := by decide +kernel
theorem dX8_init_9 : decode cX8_init 9 = .ok (.invokespecial 9, 3) := by decide +kernel
theorem dX8_init_12 : decode cX8_init 12 = .ok (.putfield 10, 3) := by decide +kernel
theorem dX8_init_15 : decode cX8_init 15 = .ok (.aload_n 0, 1) := by decide +kernel
theorem dX8_init_16 : decode cX8_init 16 = .ok (.new 16, 3) := by decide +kernel
theorem dX8_init_19 : decode cX8_init 19 = .ok (.dup, 1) := by decide +kernel
theorem dX8_init_20 : decode cX8_init 20 = .ok (.invokespecial 18, 3) := by decide +kernel
theorem dX8_init_23 : decode cX8_init 23 = .ok (.putfield 19, 3) := by decide +kernel
theorem dX8_init_26 : decode cX8_init 26 = .ok (.aload_n 0, 1) := by decide +kernel
theorem dX8_init_27 : decode cX8_init 27 = .ok (.new 23, 3) := by decide +kernel
theorem dX8_init_30 : decode cX8_init 30 = .ok (.dup, 1) := by decide +kernel
theorem dX8_init_31 : decode cX8_init 31 = .ok (.invokespecial 25, 3) := by decide +kernel
theorem dX8_init_34 : decode cX8_init 34 = .ok (.putfield 26, 3) := by decide +kernel
theorem dX8_init_37 : decode cX8_init 37 = .ok (.aload_n 0, 1) := by decide +kernel
theorem dX8_init_38 : decode cX8_init 38 = .ok (.iconst 0, 1) := by decide +kernel
theorem dX8_init_39 : decode cX8_init 39 = .ok (.putfield 30, 3) := by decide +kernel
theorem dX8_init_42 : decode cX8_init 42 = .ok (.return_, 1) := by decide +kernel
theorem dX8_copyFrom_0 : decode cX8_copyFrom 0 = .ok (.aload_n 0, 1) := by decide +kernel
theorem dX8_copyFrom_1 : decode cX8_copyFrom 1 = .ok (.getfield 10, 3) := by decide +kernel
theorem dX8_copyFrom_4 : decode cX8_copyFrom 4 = .ok (.aload_n 1, 1) := by decide +kernel
theorem dX8_copyFrom_5 : decode cX8_copyFrom 5 = .ok (.getfield 10, 3) := by decide +kernel
theorem dX8_copyFrom_8 : decode cX8_copyFrom 8 = .ok (.invokevirtual 34, 3) := by decide +kernel
theorem dX8_copyFrom_11 : decode cX8_copyFrom 11 = .ok (.aload_n 0, 1) := by decide +kernel
theorem dX8_copyFrom_12 : decode cX8_copyFrom 12 = .ok (.getfield 19, 3) := by decide +kernel
theorem dX8_copyFrom_15 : decode cX8_copyFrom 15 = .ok (.aload_n 1, 1) := by decide +kernel
theorem dX8_copyFrom_16 : decode cX8_copyFrom 16 = .ok (.getfield 19, 3) := by decide +kernel
theorem dX8_copyFrom_19 : decode cX8_copyFrom 19 = .ok (.invokevirtual 38, 3) := by decide +kernel
theorem dX8_copyFrom_22 : decode cX8_copyFrom 22 = .ok (.aload_n 0, 1) := by decide +kernel
theorem dX8_copyFrom_23 : decode cX8_copyFrom 23 = .ok (.getfield 26, 3) := by decide +kernel
theorem dX8_copyFrom_26 : decode cX8_copyFrom 26 = .ok (.aload_n 1, 1) := by decide +kernel
theorem dX8_copyFrom_27 : decode cX8_copyFrom 27 = .ok (.getfield 26, 3) := by decide +kernel
theorem dX8_copyFrom_30 : decode cX8_copyFrom 30 = .ok (.invokevirtual 41, 3) := by decide +kernel
theorem dX8_copyFrom_33 : decode cX8_copyFrom 33 = .ok (.return_, 1) := by decide +kernel
theorem dX9_init_0 : decode cX9_init 0 = .ok (.aload_n 0, 1) := by decide +kernel
theorem dX9_init_1 : decode cX9_init 1 = .ok (.invokespecial 3, 3) := by decide +kernel
theorem dX9_init_4 : decode cX9_init 4 = .ok (.aload_n 0, 1) := by decide +kernel
theorem dX9_init_5 : decode cX9_init 5 = .ok (.bipush 24, 2) := by decide +kernel
theorem dX9_init_7 : decode cX9_init 7 = .ok (.newarray .int, 2) := by decide +kernel
theorem dX9_init_9 : decode cX9_init 9 = .ok (.putfield 9, 3) := by decide +kernel
theorem dX9_init_12 : decode cX9_init 12 = .ok (.aload_n 0, 1) := by decide +kernel
theorem dX9_init_13 : decode cX9_init 13 = .ok (.bipush 24, 2) := by decide +kernel
theorem dX9_init_15 : decode cX9_init 15 = .ok (.newarray .int, 2) := by decide +kernel
theorem dX9_init_17 : decode cX9_init 17 = .ok (.putfield 15, 3) := by decide +kernel
theorem dX9_init_20 : decode cX9_init 20 = .ok (.aload_n 0, 1) := by decide +kernel
theorem dX9_init_21 : decode cX9_init 21 = .ok (.bipush 24, 2) := by decide +kernel
theorem dX9_init_23 : decode cX9_init 23 = .ok (.newarray .int, 2) := by decide +kernel
theorem dX9_init_25 : decode cX9_init 25 = .ok (.putfield 18, 3) := by decide +kernel
theorem dX9_init_28 : decode cX9_init 28 = .ok (.aload_n 0, 1) := by decide +kernel
theorem dX9_init_29 : decode cX9_init 29 = .ok (.iconst 0, 1) := by decide +kernel
theorem dX9_init_30 : decode cX9_init 30 = .ok (.putfield 21, 3) := by decide +kernel
theorem dX9_init_33 : decode cX9_init 33 = .ok (.aload_n 0, 1) := by decide +kernel
theorem dX9_init_34 : decode cX9_init 34 = .ok (.bipush 24, 2) := by decide +kernel
theorem dX9_init_36 : decode cX9_init 36 = .ok (.newarray .int, 2) := by decide +kernel
theorem dX9_init_38 : decode cX9_init 38 = .ok (.putfield 25, 3) := by decide +kernel
theorem dX9_init_41 : decode cX9_init 41 = .ok (.aload_n 0, 1) := by decide +kernel
theorem dX9_init_42 : decode cX9_init 42 = .ok (.bipush 24, 2) := by decide +kernel
theorem dX9_init_44 : decode cX9_init 44 = .ok (.newarray .int, 2) := by decide +kernel
theorem dX9_init_46 : decode cX9_init 46 = .ok (.putfield 28, 3) := by decide +kernel
theorem dX9_init_49 : decode cX9_init 49 = .ok (.aload_n 0, 1) := by decide +kernel
theorem dX9_init_50 : decode cX9_init 50 = .ok (.bipush 24, 2) := by decide +kernel
theorem dX9_init_52 : decode cX9_init 52 = .ok (.newarray .int, 2) := by decide +kernel
theorem dX9_init_54 : decode cX9_init 54 = .ok (.putfield 31, 3) := by decide +kernel
theorem dX9_init_57 : decode cX9_init 57 = .ok (.aload_n 0, 1) := by decide +kernel
theorem dX9_init_58 : decode cX9_init 58 = .ok (.bipush 24, 2) := by decide +kernel
theorem dX9_init_60 : decode cX9_init 60 = .ok (.newarray .int, 2) := by decide +kernel
theorem dX9_init_62 : decode cX9_init 62 = .ok (.putfield 34, 3) := by decide +kernel
theorem dX9_init_65 : decode cX9_init 65 = .ok (.aload_n 0, 1) := by decide +kernel
theorem dX9_init_66 : decode cX9_init 66 = .ok (.bipush 24, 2) := by decide +kernel
theorem dX9_init_68 : decode cX9_init 68 = .ok (.newarray .int, 2) := by decide +kernel
theorem dX9_init_70 : decode cX9_init 70 = .ok (.putfield 37, 3) := by decide +kernel
theorem dX9_init_73 : decode cX9_init 73 = .ok (.aload_n 0, 1) := by decide +kernel
theorem dX9_init_74 : decode cX9_init 74 = .ok (.bipush 24, 2) := by decide +kernel
theorem dX9_init_76 : decode cX9_init 76 = .ok (.newarray .int, 2) := by decide +kernel
theorem dX9_init_78 : decode cX9_init 78 = .ok (.putfield 40, 3) := by decide +kernel
theorem dX9_init_81 : decode cX9_init 81 = .ok (.aload_n 0, 1) := by decide +kernel
theorem dX9_init_82 : decode cX9_init 82 = .ok (.bipush 24, 2) := by decide +kernel
theorem dX9_init_84 : decode cX9_init 84 = .ok (.newarray .int, 2) := by decide +kernel
theorem dX9_init_86 : decode cX9_init 86 = .ok (.putfield 43, 3) := by decide +kernel
theorem dX9_init_89 : decode cX9_init 89 = .ok (.aload_n 0, 1) := by decide +kernel
theorem dX9_init_90 : decode cX9_init 90 = .ok (.bipush 24, 2) := by decide +kernel
theorem dX9_init_92 : decode cX9_init 92 = .ok (.newarray .int, 2) := by decide +kernel
theorem dX9_init_94 : decode cX9_init 94 = .ok (.putfield 46, 3) := by decide +kernel
theorem dX9_init_97 : decode cX9_init 97 = .ok (.aload_n 0, 1) := by decide +kernel
theorem dX9_init_98 : decode cX9_init 98 = .ok (.iconst 0, 1) := by decide +kernel
theorem dX9_init_99 : decode cX9_init 99 = .ok (.putfield 49, 3) := by decide +kernel
theorem dX9_init_102 : decode cX9_init 102 = .ok (.return_, 1) := by decide +kernel
theorem dX9_copyFrom_0 : decode cX9_copyFrom 0 = .ok (.aload_n 0, 1) := by decide +kernel
theorem dX9_copyFrom_1 : decode cX9_copyFrom 1 = .ok (.aload_n 1, 1) := by decide +kernel
theorem dX9_copyFrom_2 : decode cX9_copyFrom 2 = .ok (.getfield 21, 3) := by decide +kernel
theorem dX9_copyFrom_5 : decode cX9_copyFrom 5 = .ok (.putfield 21, 3) := by decide +kernel
theorem dX9_copyFrom_8 : decode cX9_copyFrom 8 = .ok (.aload_n 0, 1) := by decide +kernel
theorem dX9_copyFrom_9 : decode cX9_copyFrom 9 = .ok (.aload_n 1, 1) := by decide +kernel
theorem dX9_copyFrom_10 : decode cX9_copyFrom 10 = .ok (.getfield 49, 3) := by decide +kernel
theorem dX9_copyFrom_13 : decode cX9_copyFrom 13 = .ok (.putfield 49, 3) := by decide +kernel
theorem dX9_copyFrom_16 : decode cX9_copyFrom 16 = .ok (.aload_n 1, 1) := by decide +kernel
theorem dX9_copyFrom_17 : decode cX9_copyFrom 17 = .ok (.getfield 9, 3) := by decide +kernel
theorem dX9_copyFrom_20 : decode cX9_copyFrom 20 = .ok (.iconst 0, 1) := by decide +kernel
theorem dX9_copyFrom_21 : decode cX9_copyFrom 21 = .ok (.aload_n 0, 1) := by decide +kernel
theorem dX9_copyFrom_22 : decode cX9_copyFrom 22 = .ok (.getfield 9, 3) := by decide +kernel
theorem dX9_copyFrom_25 : decode cX9_copyFrom 25 = .ok (.iconst 0, 1) := by decide +kernel
theorem dX9_copyFrom_26 : decode cX9_copyFrom 26 = .ok (.bipush 24, 2) := by decide +kernel
theorem dX9_copyFrom_28 : decode cX9_copyFrom 28 = .ok (.invokestatic 52, 3) := by decide +kernel
theorem dX9_copyFrom_31 : decode cX9_copyFrom 31 = .ok (.aload_n 1, 1) := by decide +kernel
theorem dX9_copyFrom_32 : decode cX9_copyFrom 32 = .ok (.getfield 25, 3) := by decide +kernel
theorem dX9_copyFrom_35 : decode cX9_copyFrom 35 = .ok (.iconst 0, 1) := by decide +kernel
theorem dX9_copyFrom_36 : decode cX9_copyFrom 36 = .ok (.aload_n 0, 1) := by decide +kernel
theorem dX9_copyFrom_37 : decode cX9_copyFrom 37 = .ok (.getfield 25, 3) := by decide +kernel
theorem dX9_copyFrom_40 : decode cX9_copyFrom 40 = .ok (.iconst 0, 1) := by decide +kernel
theorem dX9_copyFrom_41 : decode cX9_copyFrom 41 = .ok (.bipush 24, 2) := by decide +kernel
theorem dX9_copyFrom_43 : decode cX9_copyFrom 43 = .ok (.invokestatic 52, 3) := by decide +kernel
theorem dX9_copyFrom_46 : decode cX9_copyFrom 46 = .ok (.aload_n 1, 1) := by decide +kernel
theorem dX9_copyFrom_47 : decode cX9_copyFrom 47 = .ok (.getfield 28, 3) := by decide +kernel
theorem dX9_copyFrom_50 : decode cX9_copyFrom 50 = .ok (.iconst 0, 1) := by decide +kernel
theorem dX9_copyFrom_51 : decode cX9_copyFrom 51 = .ok (.aload_n 0, 1) := by decide +kernel
theorem dX9_copyFrom_52 : decode cX9_copyFrom 52 = .ok (.getfield 28, 3) := by decide +kernel
theorem dX9_copyFrom_55 : decode cX9_copyFrom 55 = .ok (.iconst 0, 1) := by decide +kernel
theorem dX9_copyFrom_56 : decode cX9_copyFrom 56 = .ok (.bipush 24, 2) := by decide +kernel
theorem dX9_copyFrom_58 : decode cX9_copyFrom 58 = .ok (.invokestatic 52, 3) := by decide +kernel
theorem dX9_copyFrom_61 : decode cX9_copyFrom 61 = .ok (.aload_n 1, 1) := by decide +kernel
theorem dX9_copyFrom_62 : decode cX9_copyFrom 62 = .ok (.getfield 31, 3) := by decide +kernel
theorem dX9_copyFrom_65 : decode cX9_copyFrom 65 = .ok (.iconst 0, 1) := by decide +kernel
theorem dX9_copyFrom_66 : decode cX9_copyFrom 66 = .ok (.aload_n 0, 1) := by decide +kernel
theorem dX9_copyFrom_67 : decode cX9_copyFrom 67 = .ok (.getfield 31, 3) := by decide +kernel
theorem dX9_copyFrom_70 : decode cX9_copyFrom 70 = .ok (.iconst 0, 1) := by decide +kernel
theorem dX9_copyFrom_71 : decode cX9_copyFrom 71 = .ok (.bipush 24, 2) := by decide +kernel
theorem dX9_copyFrom_73 : decode cX9_copyFrom 73 = .ok (.invokestatic 52, 3) := by decide +kernel
theorem dX9_copyFrom_76 : decode cX9_copyFrom 76 = .ok (.aload_n 1, 1) := by decide +kernel
theorem dX9_copyFrom_77 : decode cX9_copyFrom 77 = .ok (.getfield 34, 3) := by decide +kernel
theorem dX9_copyFrom_80 : decode cX9_copyFrom 80 = .ok (.iconst 0, 1) := by decide +kernel
theorem dX9_copyFrom_81 : decode cX9_copyFrom 81 = .ok (.aload_n 0, 1) := by decide +kernel
theorem dX9_copyFrom_82 : decode cX9_copyFrom 82 = .ok (.getfield 34, 3) := by decide +kernel
theorem dX9_copyFrom_85 : decode cX9_copyFrom 85 = .ok (.iconst 0, 1) := by decide +kernel
theorem dX9_copyFrom_86 : decode cX9_copyFrom 86 = .ok (.bipush 24, 2) := by decide +kernel
theorem dX9_copyFrom_88 : decode cX9_copyFrom 88 = .ok (.invokestatic 52, 3) := by decide +kernel
theorem dX9_copyFrom_91 : decode cX9_copyFrom 91 = .ok (.aload_n 1, 1) := by decide +kernel
theorem dX9_copyFrom_92 : decode cX9_copyFrom 92 = .ok (.getfield 37, 3) := by decide +kernel
theorem dX9_copyFrom_95 : decode cX9_copyFrom 95 = .ok (.iconst 0, 1) := by decide +kernel
theorem dX9_copyFrom_96 : decode cX9_copyFrom 96 = .ok (.aload_n 0, 1) := by decide +kernel
theorem dX9_copyFrom_97 : decode cX9_copyFrom 97 = .ok (.getfield 37, 3) := by decide +kernel
theorem dX9_copyFrom_100 : decode cX9_copyFrom 100 = .ok (.iconst 0, 1) := by decide +kernel
theorem dX9_copyFrom_101 : decode cX9_copyFrom 101 = .ok (.bipush 24, 2) := by decide +kernel
theorem dX9_copyFrom_103 : decode cX9_copyFrom 103 = .ok (.invokestatic 52, 3) := by decide +kernel
theorem dX9_copyFrom_106 : decode cX9_copyFrom 106 = .ok (.aload_n 1, 1) := by decide +kernel
theorem dX9_copyFrom_107 : decode cX9_copyFrom 107 = .ok (.getfield 40, 3) := by decide +kernel
theorem dX9_copyFrom_110 : decode cX9_copyFrom 110 = .ok (.iconst 0, 1) := by decide +kernel
theorem dX9_copyFrom_111 : decode cX9_copyFrom 111 = .ok (.aload_n 0, 1) := by decide +kernel
theorem dX9_copyFrom_112 : decode cX9_copyFrom 112 = .ok (.getfield 40, 3) := by decide +kernel
theorem dX9_copyFrom_115 : decode cX9_copyFrom 115 = .ok (.iconst 0, 1) := by decide +kernel
theorem dX9_copyFrom_116 : decode cX9_copyFrom 116 = .ok (.bipush 24, 2) := by decide +kernel
theorem dX9_copyFrom_118 : decode cX9_copyFrom 118 = .ok (.invokestatic 52, 3) := by decide +kernel
theorem dX9_copyFrom_121 : decode cX9_copyFrom 121 = .ok (.aload_n 1, 1) := by decide +kernel
theorem dX9_copyFrom_122 : decode cX9_copyFrom 122 = .ok (.getfield 43, 3) := by decide +kernel
theorem dX9_copyFrom_125 : decode cX9_copyFrom 125 = .ok (.iconst 0, 1) := by decide +kernel
theorem dX9_copyFrom_126 : decode cX9_copyFrom 126 = .ok (.aload_n 0, 1) := by decide +kernel
theorem dX9_copyFrom_127 : decode cX9_copyFrom 127 = .ok (.getfield 43, 3) := by decide +kernel
theorem dX9_copyFrom_130 : decode cX9_copyFrom 130 = .ok (.iconst 0, 1) := by decide +kernel
theorem dX9_copyFrom_131 : decode cX9_copyFrom 131 = .ok (.bipush 24, 2) := by decide +kernel
theorem dX9_copyFrom_133 : decode cX9_copyFrom 133 = .ok (.invokestatic 52, 3) := by decide +kernel
theorem dX9_copyFrom_136 : decode cX9_copyFrom 136 = .ok (.aload_n 1, 1) := by decide +kernel
theorem dX9_copyFrom_137 : decode cX9_copyFrom 137 = .ok (.getfield 46, 3) := by decide +kernel
theorem dX9_copyFrom_140 : decode cX9_copyFrom 140 = .ok (.iconst 0, 1) := by decide +kernel
theorem dX9_copyFrom_141 : decode cX9_copyFrom 141 = .ok (.aload_n 0, 1) := by decide +kernel
theorem dX9_copyFrom_142 : decode cX9_copyFrom 142 = .ok (.getfield 46, 3) := by decide +kernel
theorem dX9_copyFrom_145 : decode cX9_copyFrom 145 = .ok (.iconst 0, 1) := by decide +kernel
theorem dX9_copyFrom_146 : decode cX9_copyFrom 146 = .ok (.bipush 24, 2) := by decide +kernel
theorem dX9_copyFrom_148 : decode cX9_copyFrom 148 = .ok (.invokestatic 52, 3) := by decide +kernel
theorem dX9_copyFrom_151 : decode cX9_copyFrom 151 = .ok (.return_, 1) := by decide +kernel
theorem dX9_grow_0 : decode cX9_grow 0 = .ok (.aload_n 0, 1) := by decide +kernel
theorem dX9_grow_1 : decode cX9_grow 1 = .ok (.iconst 0, 1) := by decide +kernel
theorem dX9_grow_2 : decode cX9_grow 2 = .ok (.putfield 21, 3) := by decide +kernel
theorem dX9_grow_5 : decode cX9_grow 5 = .ok (.aload_n 0, 1) := by decide +kernel
theorem dX9_grow_6 : decode cX9_grow 6 = .ok (.iconst 0, 1) := by decide +kernel
theorem dX9_grow_7 : decode cX9_grow 7 = .ok (.putfield 49, 3) := by decide +kernel
theorem dX9_grow_10 : decode cX9_grow 10 = .ok (.iconst 0, 1) := by decide +kernel
theorem dX9_grow_11 : decode cX9_grow 11 = .ok (.istore 4, 2) := by decide +kernel
theorem dX9_grow_13 : decode cX9_grow 13 = .ok (.iload 4, 2) := by decide +kernel
theorem dX9_grow_15 : decode cX9_grow 15 = .ok (.aload_n 1, 1) := by decide +kernel
theorem dX9_grow_16 : decode cX9_grow 16 = .ok (.getfield 58, 3) := by decide +kernel
theorem dX9_grow_19 : decode cX9_grow 19 = .ok (.if_icmp .ge 90, 3) := by decide +kernel
theorem dX9_grow_22 : decode cX9_grow 22 = .ok (.aload_n 1, 1) := by decide +kernel
theorem dX9_grow_23 : decode cX9_grow 23 = .ok (.getfield 63, 3) := by decide +kernel
theorem dX9_grow_26 : decode cX9_grow 26 = .ok (.iload 4, 2) := by decide +kernel
theorem dX9_grow_28 : decode cX9_grow 28 = .ok (.iaload, 1) := by decide +kernel
theorem dX9_grow_29 : decode cX9_grow 29 = .ok (.istore 5, 2) := by decide +kernel
theorem dX9_grow_31 : decode cX9_grow 31 = .ok (.aload_n 0, 1) := by decide +kernel
theorem dX9_grow_32 : decode cX9_grow 32 = .ok (.getfield 46, 3) := by decide +kernel
theorem dX9_grow_35 : decode cX9_grow 35 = .ok (.iload 5, 2) := by decide +kernel
theorem dX9_grow_37 : decode cX9_grow 37 = .ok (.iconst (-1), 1) := by decide +kernel
theorem dX9_grow_38 : decode cX9_grow 38 = .ok (.iastore, 1) := by decide +kernel
theorem dX9_grow_39 : decode cX9_grow 39 = .ok (.aload_n 2, 1) := by decide +kernel
theorem dX9_grow_40 : decode cX9_grow 40 = .ok (.iload_n 3, 1) := by decide +kernel
theorem dX9_grow_41 : decode cX9_grow 41 = .ok (.iload 5, 2) := by decide +kernel
theorem dX9_grow_43 : decode cX9_grow 43 = .ok (.invokevirtual 66, 3) := by decide +kernel
theorem dX9_grow_46 : decode cX9_grow 46 = .ok (.ifCond .eq 57, 3) := by decide +kernel
theorem dX9_grow_49 : decode cX9_grow 49 = .ok (.aload_n 0, 1) := by decide +kernel
theorem dX9_grow_50 : decode cX9_grow 50 = .ok (.getfield 9, 3) := by decide +kernel
theorem dX9_grow_53 : decode cX9_grow 53 = .ok (.aload_n 0, 1) := by decide +kernel
theorem dX9_grow_54 : decode cX9_grow 54 = .ok (.getfield 21, 3) := by decide +kernel
theorem dX9_grow_57 : decode cX9_grow 57 = .ok (.iload 5, 2) := by decide +kernel
theorem dX9_grow_59 : decode cX9_grow 59 = .ok (.iastore, 1) := by decide +kernel
theorem dX9_grow_60 : decode cX9_grow 60 = .ok (.aload_n 0, 1) := by decide +kernel
theorem dX9_grow_61 : decode cX9_grow 61 = .ok (.getfield 15, 3) := by decide +kernel
theorem dX9_grow_64 : decode cX9_grow 64 = .ok (.aload_n 0, 1) := by decide +kernel
theorem dX9_grow_65 : decode cX9_grow 65 = .ok (.getfield 21, 3) := by decide +kernel
theorem dX9_grow_68 : decode cX9_grow 68 = .ok (.aload_n 1, 1) := by decide +kernel
theorem dX9_grow_69 : decode cX9_grow 69 = .ok (.getfield 72, 3) := by decide +kernel
theorem dX9_grow_72 : decode cX9_grow 72 = .ok (.iload 5, 2) := by decide +kernel
theorem dX9_grow_74 : decode cX9_grow 74 = .ok (.iaload, 1) := by decide +kernel
theorem dX9_grow_75 : decode cX9_grow 75 = .ok (.iastore, 1) := by decide +kernel
theorem dX9_grow_76 : decode cX9_grow 76 = .ok (.aload_n 0, 1) := by decide +kernel
theorem dX9_grow_77 : decode cX9_grow 77 = .ok (.getfield 18, 3) := by decide +kernel
theorem dX9_grow_80 : decode cX9_grow 80 = .ok (.aload_n 0, 1) := by decide +kernel
theorem dX9_grow_81 : decode cX9_grow 81 = .ok (.getfield 21, 3) := by decide +kernel
theorem dX9_grow_84 : decode cX9_grow 84 = .ok (.aload_n 2, 1) := by decide +kernel
theorem dX9_grow_85 : decode cX9_grow 85 = .ok (.aload_n 1, 1) := by decide +kernel
theorem dX9_grow_86 : decode cX9_grow 86 = .ok (.iload_n 3, 1) := by decide +kernel
theorem dX9_grow_87 : decode cX9_grow 87 = .ok (.iload 5, 2) := by decide +kernel
theorem dX9_grow_89 : decode cX9_grow 89 = .ok (.invokevirtual 75, 3) := by decide +kernel
theorem dX9_grow_92 : decode cX9_grow 92 = .ok (.iastore, 1) := by decide +kernel
theorem dX9_grow_93 : decode cX9_grow 93 = .ok (.aload_n 0, 1) := by decide +kernel
theorem dX9_grow_94 : decode cX9_grow 94 = .ok (.dup, 1) := by decide +kernel
theorem dX9_grow_95 : decode cX9_grow 95 = .ok (.getfield 21, 3) := by decide +kernel
theorem dX9_grow_98 : decode cX9_grow 98 = .ok (.iconst 1, 1) := by decide +kernel
theorem dX9_grow_99 : decode cX9_grow 99 = .ok (.iadd, 1) := by decide +kernel
theorem dX9_grow_100 : decode cX9_grow 100 = .ok (.putfield 21, 3) := by decide +kernel
theorem dX9_grow_103 : decode cX9_grow 103 = .ok (.iinc 4 1, 3) := by decide +kernel
theorem dX9_grow_106 : decode cX9_grow 106 = .ok (.goto (-93), 3) := by decide +kernel
theorem dX9_grow_109 : decode cX9_grow 109 = .ok (.aload_n 0, 1) := by decide +kernel
theorem dX9_grow_110 : decode cX9_grow 110 = .ok (.iconst 0, 1) := by decide +kernel
theorem dX9_grow_111 : decode cX9_grow 111 = .ok (.aload_n 0, 1) := by decide +kernel
theorem dX9_grow_112 : decode cX9_grow 112 = .ok (.getfield 21, 3) := by decide +kernel
theorem dX9_grow_115 : decode cX9_grow 115 = .ok (.iconst (-1), 1) := by decide +kernel
theorem dX9_grow_116 : decode cX9_grow 116 = .ok (.iconst 0, 1) := by decide +kernel
theorem dX9_grow_117 : decode cX9_grow 117 = .ok (.invokevirtual 79, 3) := by decide +kernel
theorem dX9_grow_120 : decode cX9_grow 120 = .ok (.pop, 1) := by decide +kernel
theorem dX9_grow_121 : decode cX9_grow 121 = .ok (.return_, 1) := by decide +kernel
theorem dX9_growNode_0 : decode cX9_growNode 0 = .ok (.iload_n 1, 1) := by decide +kernel
theorem dX9_growNode_1 : decode cX9_growNode 1 = .ok (.iload_n 2, 1) := by decide +kernel
theorem dX9_growNode_2 : decode cX9_growNode 2 = .ok (.if_icmp .ge 19, 3) := by decide +kernel
theorem dX9_growNode_5 : decode cX9_growNode 5 = .ok (.iload 4, 2) := by decide +kernel
theorem dX9_growNode_7 : decode cX9_growNode 7 = .ok (.bipush 24, 2) := by decide +kernel
theorem dX9_growNode_9 : decode cX9_growNode 9 = .ok (.if_icmp .gt 12, 3) := by decide +kernel
theorem dX9_growNode_12 : decode cX9_growNode 12 = .ok (.aload_n 0, 1) := by decide +kernel
theorem dX9_growNode_13 : decode cX9_growNode 13 = .ok (.getfield 49, 3) := by decide +kernel
theorem dX9_growNode_16 : decode cX9_growNode 16 = .ok (.bipush 24, 2) := by decide +kernel
theorem dX9_growNode_18 : decode cX9_growNode 18 = .ok (.if_icmp .lt 5, 3) := by decide +kernel
theorem dX9_growNode_21 : decode cX9_growNode 21 = .ok (.iconst 0, 1) := by decide +kernel
theorem dX9_growNode_22 : decode cX9_growNode 22 = .ok (.ireturn, 1) := by decide +kernel
theorem dX9_growNode_23 : decode cX9_growNode 23 = .ok (.aload_n 0, 1) := by decide +kernel
theorem dX9_growNode_24 : decode cX9_growNode 24 = .ok (.getfield 49, 3) := by decide +kernel
theorem dX9_growNode_27 : decode cX9_growNode 27 = .ok (.istore 5, 2) := by decide +kernel
theorem dX9_growNode_29 : decode cX9_growNode 29 = .ok (.aload_n 0, 1) := by decide +kernel
theorem dX9_growNode_30 : decode cX9_growNode 30 = .ok (.dup, 1) := by decide +kernel
theorem dX9_growNode_31 : decode cX9_growNode 31 = .ok (.getfield 49, 3) := by decide +kernel
theorem dX9_growNode_34 : decode cX9_growNode 34 = .ok (.iconst 1, 1) := by decide +kernel
theorem dX9_growNode_35 : decode cX9_growNode 35 = .ok (.iadd, 1) := by decide +kernel
theorem dX9_growNode_36 : decode cX9_growNode 36 = .ok (.putfield 49, 3) := by decide +kernel
theorem dX9_growNode_39 : decode cX9_growNode 39 = .ok (.aload_n 0, 1) := by decide +kernel
theorem dX9_growNode_40 : decode cX9_growNode 40 = .ok (.iload 5, 2) := by decide +kernel
theorem dX9_growNode_42 : decode cX9_growNode 42 = .ok (.aload_n 0, 1) := by decide +kernel
theorem dX9_growNode_43 : decode cX9_growNode 43 = .ok (.iload_n 1, 1) := by decide +kernel
theorem dX9_growNode_44 : decode cX9_growNode 44 = .ok (.iload_n 2, 1) := by decide +kernel
theorem dX9_growNode_45 : decode cX9_growNode 45 = .ok (.invokevirtual 83, 3) := by decide +kernel
theorem dX9_growNode_48 : decode cX9_growNode 48 = .ok (.iload_n 3, 1) := by decide +kernel
theorem dX9_growNode_49 : decode cX9_growNode 49 = .ok (.invokevirtual 87, 3) := by decide +kernel
theorem dX9_growNode_52 : decode cX9_growNode 52 = .ok (.aload_n 0, 1) := by decide +kernel
theorem dX9_growNode_53 : decode cX9_growNode 53 = .ok (.getfield 43, 3) := by decide +kernel
theorem dX9_growNode_56 : decode cX9_growNode 56 = .ok (.iload 5, 2) := by decide +kernel
theorem dX9_growNode_58 : decode cX9_growNode 58 = .ok (.aload_n 0, 1) := by decide +kernel
theorem dX9_growNode_59 : decode cX9_growNode 59 = .ok (.iload 5, 2) := by decide +kernel
theorem dX9_growNode_61 : decode cX9_growNode 61 = .ok (.iload_n 1, 1) := by decide +kernel
theorem dX9_growNode_62 : decode cX9_growNode 62 = .ok (.iload_n 2, 1) := by decide +kernel
theorem dX9_growNode_63 : decode cX9_growNode 63 = .ok (.iload 4, 2) := by decide +kernel
theorem dX9_growNode_65 : decode cX9_growNode 65 = .ok (.invokevirtual 91, 3) := by decide +kernel
theorem dX9_growNode_68 : decode cX9_growNode 68 = .ok (.iastore, 1) := by decide +kernel
theorem dX9_growNode_69 : decode cX9_growNode 69 = .ok (.aload_n 0, 1) := by decide +kernel
theorem dX9_growNode_70 : decode cX9_growNode 70 = .ok (.getfield 43, 3) := by decide +kernel
theorem dX9_growNode_73 : decode cX9_growNode 73 = .ok (.iload 5, 2) := by decide +kernel
theorem dX9_growNode_75 : decode cX9_growNode 75 = .ok (.iaload, 1) := by decide +kernel
theorem dX9_growNode_76 : decode cX9_growNode 76 = .ok (.ireturn, 1) := by decide +kernel
theorem dX9_fillNode_0 : decode cX9_fillNode 0 = .ok (.aload_n 0, 1) := by decide +kernel
theorem dX9_fillNode_1 : decode cX9_fillNode 1 = .ok (.getfield 25, 3) := by decide +kernel
theorem dX9_fillNode_4 : decode cX9_fillNode 4 = .ok (.iload_n 1, 1) := by decide +kernel
theorem dX9_fillNode_5 : decode cX9_fillNode 5 = .ok (.iaload, 1) := by decide +kernel
theorem dX9_fillNode_6 : decode cX9_fillNode 6 = .ok (.iconst 1, 1) := by decide +kernel
theorem dX9_fillNode_7 : decode cX9_fillNode 7 = .ok (.iadd, 1) := by decide +kernel
theorem dX9_fillNode_8 : decode cX9_fillNode 8 = .ok (.istore 5, 2) := by decide +kernel
theorem dX9_fillNode_10 : decode cX9_fillNode 10 = .ok (.iload_n 2, 1) := by decide +kernel
theorem dX9_fillNode_11 : decode cX9_fillNode 11 = .ok (.istore 6, 2) := by decide +kernel
theorem dX9_fillNode_13 : decode cX9_fillNode 13 = .ok (.iload_n 2, 1) := by decide +kernel
theorem dX9_fillNode_14 : decode cX9_fillNode 14 = .ok (.istore 7, 2) := by decide +kernel
theorem dX9_fillNode_16 : decode cX9_fillNode 16 = .ok (.iload 7, 2) := by decide +kernel
theorem dX9_fillNode_18 : decode cX9_fillNode 18 = .ok (.iload_n 3, 1) := by decide +kernel
theorem dX9_fillNode_19 : decode cX9_fillNode 19 = .ok (.if_icmp .ge 77, 3) := by decide +kernel
theorem dX9_fillNode_22 : decode cX9_fillNode 22 = .ok (.aload_n 0, 1) := by decide +kernel
theorem dX9_fillNode_23 : decode cX9_fillNode 23 = .ok (.getfield 15, 3) := by decide +kernel
theorem dX9_fillNode_26 : decode cX9_fillNode 26 = .ok (.iload 7, 2) := by decide +kernel
theorem dX9_fillNode_28 : decode cX9_fillNode 28 = .ok (.iaload, 1) := by decide +kernel
theorem dX9_fillNode_29 : decode cX9_fillNode 29 = .ok (.aload_n 0, 1) := by decide +kernel
theorem dX9_fillNode_30 : decode cX9_fillNode 30 = .ok (.getfield 25, 3) := by decide +kernel
theorem dX9_fillNode_33 : decode cX9_fillNode 33 = .ok (.iload_n 1, 1) := by decide +kernel
theorem dX9_fillNode_34 : decode cX9_fillNode 34 = .ok (.iaload, 1) := by decide +kernel
theorem dX9_fillNode_35 : decode cX9_fillNode 35 = .ok (.if_icmp .ne 55, 3) := by decide +kernel
theorem dX9_fillNode_38 : decode cX9_fillNode 38 = .ok (.iload 5, 2) := by decide +kernel
theorem dX9_fillNode_40 : decode cX9_fillNode 40 = .ok (.aload_n 0, 1) := by decide +kernel
theorem dX9_fillNode_41 : decode cX9_fillNode 41 = .ok (.iload 6, 2) := by decide +kernel
theorem dX9_fillNode_43 : decode cX9_fillNode 43 = .ok (.iload 7, 2) := by decide +kernel
theorem dX9_fillNode_45 : decode cX9_fillNode 45 = .ok (.iload_n 1, 1) := by decide +kernel
theorem dX9_fillNode_46 : decode cX9_fillNode 46 = .ok (.iload 4, 2) := by decide +kernel
theorem dX9_fillNode_48 : decode cX9_fillNode 48 = .ok (.iconst 1, 1) := by decide +kernel
theorem dX9_fillNode_49 : decode cX9_fillNode 49 = .ok (.iadd, 1) := by decide +kernel
theorem dX9_fillNode_50 : decode cX9_fillNode 50 = .ok (.invokevirtual 79, 3) := by decide +kernel
theorem dX9_fillNode_53 : decode cX9_fillNode 53 = .ok (.invokestatic 94, 3) := by decide +kernel
theorem dX9_fillNode_56 : decode cX9_fillNode 56 = .ok (.istore 5, 2) := by decide +kernel
theorem dX9_fillNode_58 : decode cX9_fillNode 58 = .ok (.iload 5, 2) := by decide +kernel
theorem dX9_fillNode_60 : decode cX9_fillNode 60 = .ok (.aload_n 0, 1) := by decide +kernel
theorem dX9_fillNode_61 : decode cX9_fillNode 61 = .ok (.getfield 18, 3) := by decide +kernel
theorem dX9_fillNode_64 : decode cX9_fillNode 64 = .ok (.iload 7, 2) := by decide +kernel
theorem dX9_fillNode_66 : decode cX9_fillNode 66 = .ok (.iaload, 1) := by decide +kernel
theorem dX9_fillNode_67 : decode cX9_fillNode 67 = .ok (.invokestatic 94, 3) := by decide +kernel
theorem dX9_fillNode_70 : decode cX9_fillNode 70 = .ok (.istore 5, 2) := by decide +kernel
theorem dX9_fillNode_72 : decode cX9_fillNode 72 = .ok (.aload_n 0, 1) := by decide +kernel
theorem dX9_fillNode_73 : decode cX9_fillNode 73 = .ok (.iload_n 1, 1) := by decide +kernel
theorem dX9_fillNode_74 : decode cX9_fillNode 74 = .ok (.aload_n 0, 1) := by decide +kernel
theorem dX9_fillNode_75 : decode cX9_fillNode 75 = .ok (.getfield 9, 3) := by decide +kernel
theorem dX9_fillNode_78 : decode cX9_fillNode 78 = .ok (.iload 7, 2) := by decide +kernel
theorem dX9_fillNode_80 : decode cX9_fillNode 80 = .ok (.iaload, 1) := by decide +kernel
theorem dX9_fillNode_81 : decode cX9_fillNode 81 = .ok (.invokevirtual 97, 3) := by decide +kernel
theorem dX9_fillNode_84 : decode cX9_fillNode 84 = .ok (.iload 7, 2) := by decide +kernel
theorem dX9_fillNode_86 : decode cX9_fillNode 86 = .ok (.iconst 1, 1) := by decide +kernel
theorem dX9_fillNode_87 : decode cX9_fillNode 87 = .ok (.iadd, 1) := by decide +kernel
theorem dX9_fillNode_88 : decode cX9_fillNode 88 = .ok (.istore 6, 2) := by decide +kernel
theorem dX9_fillNode_90 : decode cX9_fillNode 90 = .ok (.iinc 7 1, 3) := by decide +kernel
theorem dX9_fillNode_93 : decode cX9_fillNode 93 = .ok (.goto (-77), 3) := by decide +kernel
theorem dX9_fillNode_96 : decode cX9_fillNode 96 = .ok (.iload 5, 2) := by decide +kernel
theorem dX9_fillNode_98 : decode cX9_fillNode 98 = .ok (.aload_n 0, 1) := by decide +kernel
theorem dX9_fillNode_99 : decode cX9_fillNode 99 = .ok (.iload 6, 2) := by decide +kernel
theorem dX9_fillNode_101 : decode cX9_fillNode 101 = .ok (.iload_n 3, 1) := by decide +kernel
theorem dX9_fillNode_102 : decode cX9_fillNode 102 = .ok (.iload_n 1, 1) := by decide +kernel
theorem dX9_fillNode_103 : decode cX9_fillNode 103 = .ok (.iload 4, 2) := by decide +kernel
theorem dX9_fillNode_105 : decode cX9_fillNode 105 = .ok (.iconst 1, 1) := by decide +kernel
theorem dX9_fillNode_106 : decode cX9_fillNode 106 = .ok (.iadd, 1) := by decide +kernel
theorem dX9_fillNode_107 : decode cX9_fillNode 107 = .ok (.invokevirtual 79, 3) := by decide +kernel
theorem dX9_fillNode_110 : decode cX9_fillNode 110 = .ok (.invokestatic 94, 3) := by decide +kernel
theorem dX9_fillNode_113 : decode cX9_fillNode 113 = .ok (.ireturn, 1) := by decide +kernel
theorem dX9_topLevel_0 : decode cX9_topLevel 0 = .ok (.iconst 0, 1) := by decide +kernel
theorem dX9_topLevel_1 : decode cX9_topLevel 1 = .ok (.istore_n 3, 1) := by decide +kernel
theorem dX9_topLevel_2 : decode cX9_topLevel 2 = .ok (.iload_n 1, 1) := by decide +kernel
theorem dX9_topLevel_3 : decode cX9_topLevel 3 = .ok (.istore 4, 2) := by decide +kernel
theorem dX9_topLevel_5 : decode cX9_topLevel 5 = .ok (.iload 4, 2) := by decide +kernel
theorem dX9_topLevel_7 : decode cX9_topLevel 7 = .ok (.iload_n 2, 1) := by decide +kernel
theorem dX9_topLevel_8 : decode cX9_topLevel 8 = .ok (.if_icmp .ge 28, 3) := by decide +kernel
theorem dX9_topLevel_11 : decode cX9_topLevel 11 = .ok (.aload_n 0, 1) := by decide +kernel
theorem dX9_topLevel_12 : decode cX9_topLevel 12 = .ok (.getfield 15, 3) := by decide +kernel
theorem dX9_topLevel_15 : decode cX9_topLevel 15 = .ok (.iload 4, 2) := by decide +kernel
theorem dX9_topLevel_17 : decode cX9_topLevel 17 = .ok (.iaload, 1) := by decide +kernel
theorem dX9_topLevel_18 : decode cX9_topLevel 18 = .ok (.iload_n 3, 1) := by decide +kernel
theorem dX9_topLevel_19 : decode cX9_topLevel 19 = .ok (.if_icmp .le 11, 3) := by decide +kernel
theorem dX9_topLevel_22 : decode cX9_topLevel 22 = .ok (.aload_n 0, 1) := by decide +kernel
theorem dX9_topLevel_23 : decode cX9_topLevel 23 = .ok (.getfield 15, 3) := by decide +kernel
theorem dX9_topLevel_26 : decode cX9_topLevel 26 = .ok (.iload 4, 2) := by decide +kernel
theorem dX9_topLevel_28 : decode cX9_topLevel 28 = .ok (.iaload, 1) := by decide +kernel
theorem dX9_topLevel_29 : decode cX9_topLevel 29 = .ok (.istore_n 3, 1) := by decide +kernel
theorem dX9_topLevel_30 : decode cX9_topLevel 30 = .ok (.iinc 4 1, 3) := by decide +kernel
theorem dX9_topLevel_33 : decode cX9_topLevel 33 = .ok (.goto (-28), 3) := by decide +kernel
theorem dX9_topLevel_36 : decode cX9_topLevel 36 = .ok (.iload_n 3, 1) := by decide +kernel
theorem dX9_topLevel_37 : decode cX9_topLevel 37 = .ok (.ireturn, 1) := by decide +kernel
theorem dX9_openNode_0 : decode cX9_openNode 0 = .ok (.aload_n 0, 1) := by decide +kernel
theorem dX9_openNode_1 : decode cX9_openNode 1 = .ok (.getfield 25, 3) := by decide +kernel
theorem dX9_openNode_4 : decode cX9_openNode 4 = .ok (.iload_n 1, 1) := by decide +kernel
theorem dX9_openNode_5 : decode cX9_openNode 5 = .ok (.iload_n 2, 1) := by decide +kernel
theorem dX9_openNode_6 : decode cX9_openNode 6 = .ok (.iastore, 1) := by decide +kernel
theorem dX9_openNode_7 : decode cX9_openNode 7 = .ok (.aload_n 0, 1) := by decide +kernel
theorem dX9_openNode_8 : decode cX9_openNode 8 = .ok (.getfield 28, 3) := by decide +kernel
theorem dX9_openNode_11 : decode cX9_openNode 11 = .ok (.iload_n 1, 1) := by decide +kernel
theorem dX9_openNode_12 : decode cX9_openNode 12 = .ok (.iconst 0, 1) := by decide +kernel
theorem dX9_openNode_13 : decode cX9_openNode 13 = .ok (.iastore, 1) := by decide +kernel
theorem dX9_openNode_14 : decode cX9_openNode 14 = .ok (.aload_n 0, 1) := by decide +kernel
theorem dX9_openNode_15 : decode cX9_openNode 15 = .ok (.getfield 37, 3) := by decide +kernel
theorem dX9_openNode_18 : decode cX9_openNode 18 = .ok (.iload_n 1, 1) := by decide +kernel
theorem dX9_openNode_19 : decode cX9_openNode 19 = .ok (.iconst 0, 1) := by decide +kernel
theorem dX9_openNode_20 : decode cX9_openNode 20 = .ok (.iastore, 1) := by decide +kernel
theorem dX9_openNode_21 : decode cX9_openNode 21 = .ok (.aload_n 0, 1) := by decide +kernel
theorem dX9_openNode_22 : decode cX9_openNode 22 = .ok (.getfield 40, 3) := by decide +kernel
